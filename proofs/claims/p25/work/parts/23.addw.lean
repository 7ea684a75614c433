/-- put into its place -/
def insS (w : WT) : List WT → List WT
  | [] => [w]
  | x :: L => if ahd x w then x :: insS w L else w :: x :: L
theorem insS_at {w : WT} : ∀ (n : Nat) (L : List WT), n ≤ L.length → (∀ i x, i < n → L[i]? = some x → ahd x w) → (∀ x, L[n]? = some x → ¬ ahd x w) → L.insertIdx n w = insS w L
  | 0, [], _, _, _ => rfl
  | 0, x :: L, _, _, h => by
    show w :: x :: L = insS w (x :: L)
    unfold insS
    rw [if_neg (h x rfl)]
  | n + 1, [], h, _, _ => absurd h (by simp)
  | n + 1, x :: L, h1, h2, h3 => by
    have := insS_at n L (by simpa using h1) (fun i y hi hy => h2 (i + 1) y (by omega) (by simpa using hy)) (fun y hy => h3 y (by simpa using hy))
    show x :: L.insertIdx n w = insS w (x :: L)
    rw [this]
    conv => rhs; unfold insS
    rw [if_pos (h2 0 x (by omega) rfl)]
def addV (w : WT) (v : Int32) : WT := (wK w, wS w, wE w, wC w + 1, wM w + v, wO w)
abbrev isW (k s : Int32) (w : WT) : Prop := wK w = k ∧ wS w = s
/-- no two windows have one key and one beginning -/
def UQ (L : List WT) : Prop := L.Pairwise (fun a b => ¬ (wK a = wK b ∧ wS a = wS b))
theorem UQ.adr {G : GH} : ∀ {rows : List Nat}, UQ (rows.map (rW G)) → rows.Nodup → ∀ x y, x ∈ rows → y ∈ rows → x ≠ y → ¬ (wK (rW G x) = wK (rW G y) ∧ wS (rW G x) = wS (rW G y))
  | [], _, _, _, _, h, _, _ => absurd h List.not_mem_nil
  | r :: rows, h, hn, x, y, hx, hy, hne => by
    have h' := List.pairwise_cons.mp h
    have hn' := List.nodup_cons.mp hn
    rcases List.mem_cons.mp hx with hx | hx
    · rcases List.mem_cons.mp hy with hy | hy
      · exact absurd (hx.trans hy.symm) hne
      · rw [hx]; exact h'.1 _ (List.mem_map_of_mem hy)
    · rcases List.mem_cons.mp hy with hy | hy
      · rw [hy]; exact fun z => h'.1 _ (List.mem_map_of_mem hx) ⟨z.1.symm, z.2.symm⟩
      · exact UQ.adr h'.2 hn'.2 x y hx hy hne
/-- what an event makes of a window that is there -/
def tch (v mk : Int32) (w : WT) : WT := if wO w = 0 then addV w v else setO (addV w v) (if wE w ≤ mk then 1 else 0)
def tchR (v mk : Int32) (w : WT) : List WT := if wO w = 0 then [] else setO w 0 :: (if wE w ≤ mk then [setO (addV w v) 1] else [])
def addL (k s e v mk : Int32) (L : List WT) : List WT := if ∃ w ∈ L, isW k s w then L.map (fun w => if isW k s w then tch v mk w else w) else insS (addV (k, s, e, 0, 0, 0) v) L
def addR (k s v mk : Int32) (L : List WT) : List WT := L.flatMap (fun w => if isW k s w then tchR v mk w else [])
theorem c_emitIfDue {E : EV} {G : GH} {Post : Res → GH → Prop} {o : Nat → Nat} {ws si ls n q b : Nat} {mk : Int32} {sr : List Nat} {cm pr : Int32} (hb : gT G b = 8) (h1 : o b ≠ si) (h2 : o b ≠ ls) (hw : Wf G) (hS : SiR E G o si ls sr cm pr n q) (hn : n ≤ 2999) (hl : sr.length ≤ 2999)
    (k0 : mk < wE (rW G b) → Post (.inl none) G)
    (k1 : ¬ mk < wE (rW G b) → ∀ G' o' sr' q', SiR E G' o' si ls sr' cm pr (n + 1) q' → recs G' sr' (n + 1) = recs G sr n ++ [setO (rW G b) 1] → Stq [si, ls] (sI G 453 b 1) o G' o' → Cs G q G' q' → (∀ m, m ≤ n → recs G' sr' m = recs G sr m) → sr'.length ≤ max sr.length (n + 1) → Post (.inl none) G') : Cl E 8 m_Ws_emitIfDue [.ref ws, .ref b, .int mk, .ref si] G Post := by
  have st : Stq [o b] G o (sI G 453 b 1) o := (Stq.rf hw).wI (fun _ => in1)
  have n1 : si ∉ [o b] := by rw [List.mem_singleton]; exact fun z => h1 z.symm
  have n2 : ls ∉ [o b] := by rw [List.mem_singleton]; exact fun z => h2 z.symm
  refine j_enter (L := [some (.ref ws), some (.ref b), some (.int mk), some (.ref si)]) me_Ws_emitIfDue (cat_c rfl (cat_c rfl (cat_c rfl (cat_c rfl cat_n)))) (Nat.le_of_ble_eq_true rfl) rfl (wp_Ws_emitIfDue_0 ws b mk si ⟨hb, fun c => k0 c, fun c => ⟨hS.1, c_write (hS.stp hw st n1 n2) hw hb h1 h2 (Or.inr rfl) hn hl (fun G' o' sr' q' y1 y2 y3 y4 y5 y6 => wp_Ws_emitIfDue_14 (k1 c G' o' sr' q' y1 ?_ y3 y4 (fun m hm => (y5 m hm).trans (hS.rec hw st n1 m)) y6))⟩⟩)
  rw [y2, hS.rec hw st n1 n, rW_sO]
/-- an event's value is added to a window -/
theorem addV_heap {E : EV} {G : GH} {o : Nat → Nat} {ws lr lp p b : Nat} {rows spare : List Nat} {v : Int32} (h : WsR E G o ws lr lp rows spare p) (hw : Wf G) (hb : o b = ws) :
    Stq [ws] G o (sI (sI G 451 b (gI G 451 b + 1)) 452 b (gI G 452 b + v)) o ∧ WsR E (sI (sI G 451 b (gI G 451 b + 1)) 452 b (gI G 452 b + v)) o ws lr lp rows spare p ∧ rW (sI (sI G 451 b (gI G 451 b + 1)) 452 b (gI G 452 b + v)) b = addV (rW G b) v ∧ ∀ x, x ≠ b → rW (sI (sI G 451 b (gI G 451 b + 1)) 452 b (gI G 452 b + v)) x = rW G x := by
  have hb' : b < gz G → o b ∈ [ws] := fun _ => by rw [hb]; exact in1
  refine ⟨((Stq.rf hw).wI hb').wI hb', (h.wI hw hb ⟨h.ne.1, h.ne.2.1⟩ (fun z => absurd z (by omega))).wI hw hb ⟨h.ne.1, h.ne.2.1⟩ (fun z => absurd z (by omega)), ?_, fun x hx => (rW_sI_ne hx).trans (rW_sI_ne hx)⟩
  refine rW_mk ?_ ?_ ?_ ?_ ?_ ?_
  · rw [gI_sI, if_neg (fun z => absurd z.1 (by omega)), gI_sI, if_neg (fun z => absurd z.1 (by omega))]; rfl
  · rw [gI_sI, if_neg (fun z => absurd z.1 (by omega)), gI_sI, if_neg (fun z => absurd z.1 (by omega))]; rfl
  · rw [gI_sI, if_neg (fun z => absurd z.1 (by omega)), gI_sI, if_neg (fun z => absurd z.1 (by omega))]; rfl
  · rw [gI_sI, if_neg (fun z => absurd z.1 (by omega)), gI_sI, if_pos ⟨rfl, rfl⟩]; rfl
  · rw [gI_sI, if_pos ⟨rfl, rfl⟩]; rfl
  · rw [gI_sI, if_neg (fun z => absurd z.1 (by omega)), gI_sI, if_neg (fun z => absurd z.1 (by omega))]; rfl
