abbrev meets (w x : WT) : Prop := wK w = wK x ∧ wS w < wE x ∧ wS x < wE w
def absorb (w x : WT) : WT := (wK w, if wS x < wS w then wS x else wS w, if wE w < wE x then wE x else wE w, wC w + wC x, wM w + wM x, wO w)
/-- absorbMet: the new window, the windows that stay, what is taken back, whether something is -/
def absW (w : WT) : List WT → WT
  | [] => w
  | x :: L => if meets w x then absW (absorb w x) L else absW w L
def absL (w : WT) : List WT → List WT
  | [] => []
  | x :: L => if meets w x then absL (absorb w x) L else x :: absL w L
def absR (w : WT) : List WT → List WT
  | [] => []
  | x :: L => if meets w x then (if wO x = 0 then [] else [setO x 0]) ++ absR (absorb w x) L else absR w L
def absF (f : Int32) (w : WT) : List WT → Int32
  | [] => f
  | x :: L => if meets w x then absF (if wO x = 0 then f else 1) (absorb w x) L else absF f w L
theorem absorb_heap {E : EV} {G : GH} {o : Nat → Nat} {ws lr lp p a x : Nat} {rows spare : List Nat} (h : WsR E G o ws lr lp rows spare p) (hw : Wf G) (ha : o a = ws) :
    ∀ G', G' = sI (sI (sI (sI G 449 a (if gI G 449 x < gI G 449 a then gI G 449 x else gI G 449 a)) 450 a (if gI G 450 a < gI G 450 x then gI G 450 x else gI G 450 a)) 451 a (gI G 451 a + gI G 451 x)) 452 a (gI G 452 a + gI G 452 x) →
    Stq [ws] G o G' o ∧ WsR E G' o ws lr lp rows spare p ∧ rW G' a = absorb (rW G a) (rW G x) ∧ (∀ y, y ≠ a → rW G' y = rW G y) ∧ gz G' = gz G ∧ gs G' = gs G := by
  intro G' hG
  have ha' : a < gz G → o a ∈ [ws] := fun _ => by rw [ha]; exact in1
  have ne : lr ≠ ws ∧ lp ≠ ws := ⟨h.ne.1, h.ne.2.1⟩
  subst hG
  refine ⟨((((Stq.rf hw).wI ha').wI ha').wI ha').wI ha', (((h.wI hw ha ne (fun z => absurd z (by omega))).wI hw ha ne (fun z => absurd z (by omega))).wI hw ha ne (fun z => absurd z (by omega))).wI hw ha ne (fun z => absurd z (by omega)), ?_, fun y hy => by rw [rW_sI_ne hy, rW_sI_ne hy, rW_sI_ne hy, rW_sI_ne hy], rfl, rfl⟩
  refine rW_mk ?_ ?_ ?_ ?_ ?_ ?_
  · rw [gI_sI, if_neg (fun z => absurd z.1 (by omega)), gI_sI, if_neg (fun z => absurd z.1 (by omega)), gI_sI, if_neg (fun z => absurd z.1 (by omega)), gI_sI, if_neg (fun z => absurd z.1 (by omega))]; rfl
  · rw [gI_sI, if_neg (fun z => absurd z.1 (by omega)), gI_sI, if_neg (fun z => absurd z.1 (by omega)), gI_sI, if_neg (fun z => absurd z.1 (by omega)), gI_sI, if_pos ⟨rfl, rfl⟩]; rfl
  · rw [gI_sI, if_neg (fun z => absurd z.1 (by omega)), gI_sI, if_neg (fun z => absurd z.1 (by omega)), gI_sI, if_pos ⟨rfl, rfl⟩]; rfl
  · rw [gI_sI, if_neg (fun z => absurd z.1 (by omega)), gI_sI, if_pos ⟨rfl, rfl⟩]; rfl
  · rw [gI_sI, if_pos ⟨rfl, rfl⟩]; rfl
  · rw [gI_sI, if_neg (fun z => absurd z.1 (by omega)), gI_sI, if_neg (fun z => absurd z.1 (by omega)), gI_sI, if_neg (fun z => absurd z.1 (by omega)), gI_sI, if_neg (fun z => absurd z.1 (by omega))]; rfl
theorem c_absorbMet {E : EV} {Post : Res → GH → Prop} {ws lr lp si ls a : Nat} {cm pr : Int32} (hd : ws ≠ si ∧ ws ≠ ls ∧ lr ≠ si ∧ lr ≠ ls ∧ lp ≠ si ∧ lp ≠ ls) :
    ∀ (rest pre : List Nat) (G : GH) (o : Nat → Nat) (p q n : Nat) (spare sr : List Nat) (f : Int32), WsR E G o ws lr lp (pre ++ rest) spare p → SiR E G o si ls sr cm pr n q → Wf G → gT G a = 8 → o a = ws → a ∉ (pre ++ rest) ++ spare → (f = 0 ∨ f = 1) → n + rest.length ≤ 2999 → sr.length ≤ 2999 → pre.length + rest.length + spare.length ≤ 2999 →
    (∀ G' o' p' q' n' rest' spare' sr', WsR E G' o' ws lr lp (pre ++ rest') spare' p' → SiR E G' o' si ls sr' cm pr n' q' → pre.map (rW G') = pre.map (rW G) → rest'.map (rW G') = absL (rW G a) (rest.map (rW G)) → rW G' a = absW (rW G a) (rest.map (rW G)) → gT G' a = 8 → o' a = ws → (∀ y, y ∈ (pre ++ rest') ++ spare' → y ∈ (pre ++ rest) ++ spare) → (pre ++ rest').length + spare'.length = (pre ++ rest).length + spare.length → recs G' sr' n' = recs G sr n ++ absR (rW G a) (rest.map (rW G)) → Stq [ws, lr, lp, si, ls] G o G' o' → Cs G (p + q) G' (p' + q') → n ≤ n' → (∀ m, m ≤ n → recs G' sr' m = recs G sr m) → sr'.length ≤ max sr.length n' → (absF f (rW G a) (rest.map (rW G)) = 0 ∨ absF f (rW G a) (rest.map (rW G)) = 1) → Post (.inl (some (.int (absF f (rW G a) (rest.map (rW G)))))) G') →
    J E 8 m_Ws_absorbMet 14 [some (.ref ws), some (.ref a), some (.ref si), some (.int f), some (.int (nI pre.length)), some (.int (nI rest.length)), none] [] G Post := by
  intro rest
  induction rest with
  | nil =>
    intro pre G o p q n spare sr f hW hS hw ha hoa hna hf hn hl hlen k
    refine wp_Ws_absorbMet_14 ws a si f (nI pre.length) (nI ([] : List Nat).length) ?_
    exact ⟨fun _ => ⟨hf, k G o p q n [] spare sr hW hS rfl rfl rfl ha hoa (fun y hy => hy) rfl (by show _ = _ ++ []; rw [List.append_nil]) (Stq.rf hw) Cs.rf (Nat.le_refl _) (fun _ _ => rfl) (Nat.le_max_left _ _) hf⟩, fun c => absurd (show nI ([] : List Nat).length ≤ (0 : Int32) from by decide +kernel) c⟩
  | cons b rest ih =>
    intro pre G o p q n spare sr f hW hS hw ha hoa hna hf hn hl hlen k
    obtain ⟨a1, a2, a3, a4, a5, a6, cr, cp, a7, a8, a9⟩ := id hW
    have hle := a7.le
    have hlen' : (pre ++ b :: rest).length = pre.length + rest.length + 1 := by simp; omega
    rw [List.length_cons] at hn hlen
    have hb : (pre ++ b :: rest)[pre.length]? = some b := by rw [List.getElem?_append_right (Nat.le_refl _), Nat.sub_self]; rfl
    have hbm : b ∈ pre ++ b :: rest := List.mem_of_getElem? hb
    obtain ⟨x1, x2, x3⟩ := a6.2 b (List.mem_append_left _ hbm)
    have nd : (pre ++ b :: rest).Nodup := (List.nodup_append.mp a6.1).1
    have nd2 : b ∉ pre ∧ b ∉ rest := by
      have h1 := List.nodup_append.mp nd
      exact ⟨fun z => h1.2.2 b z b List.mem_cons_self rfl, (List.nodup_cons.mp h1.2.1).1⟩
    have hab : a ≠ b := fun z => hna (List.mem_append_left _ (z ▸ hbm))
    have hdw : ws ∉ [si, ls] ∧ lr ∉ [si, ls] ∧ lp ∉ [si, ls] := by simp; exact ⟨⟨hd.1, hd.2.1⟩, ⟨hd.2.2.1, hd.2.2.2.1⟩, hd.2.2.2.2.1, hd.2.2.2.2.2⟩
    have hSub : ∀ x, x ∈ [si, ls] → x ∈ [ws, lr, lp, si, ls] := fun x hx => by simp at hx ⊢; rcases hx with h | h <;> simp [h]
    have hSub2 : ∀ x, x ∈ [ws] → x ∈ [ws, lr, lp, si, ls] := fun x hx => by simp at hx ⊢; simp [hx]
    have n1 : si ∉ [ws] := by rw [List.mem_singleton]; exact fun z => hd.1 z.symm
    have n2 : ls ∉ [ws] := by rw [List.mem_singleton]; exact fun z => hd.2.1 z.symm
    have hr' : pre ++ b :: rest = (pre ++ [b]) ++ rest := by simp
    have hl' : pre.length + 1 = (pre ++ [b]).length := by simp
    have ne := hW.ne
    have hdec : nI (rest.length + 1) + (-1 : Int32) = nI rest.length := by
      rw [← nI_1, Int32.add_assoc, show (1 : Int32) + (-1 : Int32) = 0 from by decide, Int32.add_zero]
    have next : ¬ meets (rW G a) (rW G b) → J E 8 m_Ws_absorbMet 14 [some (.ref ws), some (.ref a), some (.ref si), some (.int f), some (.int (nI (pre.length + 1))), some (.int (nI (rest.length + 1) + (-1 : Int32))), none] [] G Post := by
      intro hnm
      rw [hl', hdec]
      refine ih (pre ++ [b]) G o p q n spare sr f (by rw [← hr']; exact hW) hS hw ha hoa (by rw [← hr']; exact hna) hf (by omega) hl (by rw [← hl']; omega) (fun G' o' p' q' n' rest' spare' sr' y1 y2 y3 y4 y5 y6 y7 y8 y9 y10 y11 y12 y13 y14 y15 y16 => ?_)
      rw [List.map_append, List.map_append] at y3
      have y3' := List.append_inj y3 (by simp)
      have eF : absF f (rW G a) (rW G b :: rest.map (rW G)) = absF f (rW G a) (rest.map (rW G)) := if_neg hnm
      have eL : absL (rW G a) (rW G b :: rest.map (rW G)) = rW G b :: absL (rW G a) (rest.map (rW G)) := if_neg hnm
      have eW : absW (rW G a) (rW G b :: rest.map (rW G)) = absW (rW G a) (rest.map (rW G)) := if_neg hnm
      have eR : absR (rW G a) (rW G b :: rest.map (rW G)) = absR (rW G a) (rest.map (rW G)) := if_neg hnm
      have hr2 : ∀ z : List Nat, pre ++ b :: z = (pre ++ [b]) ++ z := fun z => by simp
      have kk := k G' o' p' q' n' (b :: rest') spare' sr' (by rw [hr2]; exact y1) y2 y3'.1 (by
        rw [List.map_cons, List.map_cons, eL, y4]
        have := y3'.2
        simp at this
        rw [this]) (by rw [List.map_cons, eW]; exact y5) y6 y7 (by rw [hr2 rest', hr']; exact y8) (by rw [hr2 rest', hr']; exact y9) (by rw [List.map_cons, eR]; exact y10) y11 y12 y13 y14 y15
      rw [List.map_cons, eF] at kk
      exact kk y16
    have tail : meets (rW G a) (rW G b) → ∀ (G1 : GH) (o1 : Nat → Nat) (q1 n1 : Nat) (sr1 : List Nat) (f1 : Int32), WsR E G1 o1 ws lr lp (pre ++ b :: rest) spare p → SiR E G1 o1 si ls sr1 cm pr n1 q1 → Stq [ws, lr, lp, si, ls] G o G1 o1 → Cs G q G1 q1 → n ≤ n1 → n1 ≤ n + 1 → (∀ m, m ≤ n → recs G1 sr1 m = recs G sr m) → sr1.length ≤ max sr.length n1 → (∀ y, y ≠ b → y ∈ pre ++ rest ∨ y = a → rW G1 y = rW G y) → wK (rW G1 b) = wK (rW G b) ∧ wS (rW G1 b) = wS (rW G b) ∧ wE (rW G1 b) = wE (rW G b) ∧ wC (rW G1 b) = wC (rW G b) ∧ wM (rW G1 b) = wM (rW G b) → f1 = (if wO (rW G b) = 0 then f else 1) → recs G1 sr1 n1 = recs G sr n ++ (if wO (rW G b) = 0 then [] else [setO (rW G b) 0]) →
        Cl E 3 m_AL_remove [.ref lr, .int (nI pre.length)] (sI (sI (sI (sI G1 449 a (if gI G1 449 b < gI G1 449 a then gI G1 449 b else gI G1 449 a)) 450 a (if gI G1 450 a < gI G1 450 b then gI G1 450 b else gI G1 450 a)) 451 a (gI G1 451 a + gI G1 451 b)) 452 a (gI G1 452 a + gI G1 452 b)) (aft E 8 m_Ws_absorbMet 93 [some (.ref ws), some (.ref a), some (.ref si), some (.int f1), some (.int (nI pre.length)), some (.int (nI (rest.length + 1))), none] [.ref lp] Post) := by
      intro hm G1 o1 q1 m1 sr1 f1 hW1 hS1 s1 cs1 hn1 hn1' hrm hsr hoth hbb hf1 hrec
      have oa1 : o1 a = ws := (s1.ow (hw a (by omega))).trans hoa
      have ta1 : gT G1 a = 8 := s1.tg' hw ha (by omega)
      obtain ⟨h1, h2, h3, h4, h5, h6⟩ := absorb_heap (x := b) hW1 s1.wf oa1 _ rfl
      generalize sI (sI (sI (sI G1 449 a (if gI G1 449 b < gI G1 449 a then gI G1 449 b else gI G1 449 a)) 450 a (if gI G1 450 a < gI G1 450 b then gI G1 450 b else gI G1 450 a)) 451 a (gI G1 451 a + gI G1 451 b)) 452 a (gI G1 452 a + gI G1 452 b) = G2 at *
      obtain ⟨b1, b2, b3, b4, b5, b6, dr, dp, b7, b8, b9⟩ := id h2
      have hS2 := hS1.stp s1.wf h1 n1 n2
      have s2 : Stq [ws, lr, lp, si, ls] G o G2 o1 := s1.tr (h1.mono hSub2)
      refine c_AL_remove b7 h1.wf (fun x hx => b6.ob x (List.mem_append_left _ hx)) hb (fun G3 hla st hz hgs => ?_)
      have s3 : Stq [ws, lr, lp, si, ls] G o G3 o1 := s2.tr (st.mono (fun x hx => by simp at hx ⊢; simp [hx]))
      have er : (pre ++ b :: rest).eraseIdx pre.length = pre ++ rest := by rw [List.eraseIdx_append_of_length_le (Nat.le_refl _), Nat.sub_self]; rfl
      rw [er] at hla
      have wsl : ws ∉ [lr] ∧ lp ∉ [lr] ∧ si ∉ [lr] ∧ ls ∉ [lr] := by simp; exact ⟨fun z => ne.1 z.symm, fun z => ne.2.2 z.symm, fun z => hd.2.2.1 z.symm, fun z => hd.2.2.2.1 z.symm⟩
      have wn3 := b6.stp h1.wf st wsl.1
      have lp3 := b8.stp h1.wf st wsl.2.1
      have tb3 := wn3.2 b (List.mem_append_left _ hbm)
      refine wp_Ws_absorbMet_96 ws a si f1 (nI pre.length) (nI (rest.length + 1)) lp b ⟨tb3.1, lp3.tg, ?_⟩
      refine c_AL_add lp3 st.wf (fun x hx => wn3.ob x (List.mem_append_right _ hx)) (OB.of8 tb3.1) (by omega) (fun G4 o4 c4 hlp st4 cs4 => ?_)
      have s4 : Stq [ws, lr, lp, si, ls] G o G4 o4 := s3.tr (st4.mono (fun x hx => by simp at hx ⊢; simp [hx]))
      have wsl4 : ws ∉ [lp] ∧ lr ∉ [lp] ∧ si ∉ [lp] ∧ ls ∉ [lp] := by simp; exact ⟨fun z => ne.2.1 z.symm, ne.2.2, fun z => hd.2.2.2.2.1 z.symm, fun z => hd.2.2.2.2.2 z.symm⟩
      have hperm : ((pre ++ b :: rest) ++ spare).Perm ((pre ++ rest) ++ (spare ++ [b])) := by
        have p1 : (pre ++ b :: rest).Perm (b :: (pre ++ rest)) := List.perm_middle
        have p2 : ((pre ++ b :: rest) ++ spare).Perm (b :: (pre ++ rest) ++ spare) := p1.append_right spare
        have p3 : ((pre ++ rest) ++ (spare ++ [b])).Perm (b :: ((pre ++ rest) ++ spare)) := by rw [← List.append_assoc]; exact List.perm_append_singleton b _
        exact p2.trans p3.symm
      have wn4 := (wn3.perm hperm).stp st.wf st4 wsl4.1
      have wz2 : ws < gz G2 := h1.wf _ (by omega)
      have wz3 : ws < gz G3 := by omega
      have sw3 := st.sm wz2 (by rw [b2]; exact wsl.1)
      have sw4 := st4.sm wz3 (by rw [b2]; exact wsl4.1)
      have hW4 : WsR E G4 o4 ws lr lp (pre ++ rest) (spare ++ [b]) ((pre ++ rest).length + (spare ++ [b]).length + dr + c4) :=
        ⟨by rw [sw4.1, sw3.1]; exact b1, (st4.ow wz3).trans b2, by rw [sw4.2.2.2.1, sw3.2.2.2.1]; exact b3, by rw [sw4.2.2.2.1, sw3.2.2.2.1]; exact b4, ne.2.2, wn4, dr, c4, hla.stp st.wf st4 wsl4.2.1, hlp, rfl⟩
      have hS4 := (hS2.stp h1.wf st wsl.2.2.1 wsl.2.2.2).stp st.wf st4 wsl4.2.2.1 wsl4.2.2.2
      have all4 : ∀ y, gT G2 y = 8 → o1 y = ws → rW G4 y = rW G2 y := fun y hy1 hy2 => by
        have yz := h1.wf y (by omega)
        exact (rW_sm (st4.sm (by omega) (by rw [hy2]; exact wsl4.1))).trans (rW_sm (st.sm yz (by rw [hy2]; exact wsl.1)))
      have hmem : ∀ y ∈ pre ++ rest, rW G4 y = rW G y := fun y hy => by
        have hym : y ∈ pre ++ b :: rest := by simp at hy ⊢; rcases hy with h | h <;> simp [h]
        have hyb : y ≠ b := fun z => by
          rw [z] at hy
          exact (List.mem_append.mp hy).elim nd2.1 nd2.2
        have hya : y ≠ a := fun z => hna (List.mem_append_left _ (z ▸ hym))
        have ty := b6.2 y (List.mem_append_left _ hym)
        rw [all4 y ty.1 ty.2.1, h4 y hya, hoth y hyb (Or.inl hy)]
      have ha4 : rW G4 a = absorb (rW G a) (rW G b) := by
        rw [all4 a (by have := h1.tg (s1.wf a (by omega)); omega) oa1, h3, hoth a hab (Or.inr rfl)]
        unfold absorb
        rw [hbb.2.1, hbb.2.2.1, hbb.2.2.2.1, hbb.2.2.2.2]
      have rr4 : ∀ m, recs G4 sr1 m = recs G1 sr1 m := fun m => by
        rw [(hS2.stp h1.wf st wsl.2.2.1 wsl.2.2.2).rec st.wf st4 wsl4.2.2.1 m, hS2.rec h1.wf st wsl.2.2.1 m, hS1.rec s1.wf h1 n1 m]
      refine wp_Ws_absorbMet_102 ws a si f1 (nI pre.length) (nI (rest.length + 1)) 1 ?_
      rw [hdec]
      refine ih pre G4 o4 _ q1 m1 (spare ++ [b]) sr1 f1 hW4 hS4 st4.wf (s4.tg' hw ha (by omega)) ((s4.ow (hw a (by omega))).trans hoa) (fun z => hna (hperm.mem_iff.mpr z)) (by rw [hf1]; by_cases c : wO (rW G b) = 0 <;> simp [c, hf]) (by omega) (by omega) (by simp; omega) (fun G' o' p' q' n' rest' spare' sr' y1 y2 y3 y4 y5 y6 y7 y8 y9 y10 y11 y12 y13 y14 y15 y16 => ?_)
      have mp : pre.map (rW G4) = pre.map (rW G) := List.map_congr_left (fun y hy => hmem y (List.mem_append_left _ hy))
      have mr : rest.map (rW G4) = rest.map (rW G) := List.map_congr_left (fun y hy => hmem y (List.mem_append_right _ hy))
      rw [mr, ha4] at y4 y5 y10 y16
      rw [mp] at y3
      have eF : absF f (rW G a) (rW G b :: rest.map (rW G)) = absF f1 (absorb (rW G a) (rW G b)) (rest.map (rW G)) := by rw [hf1]; exact if_pos hm
      have eL : absL (rW G a) (rW G b :: rest.map (rW G)) = absL (absorb (rW G a) (rW G b)) (rest.map (rW G)) := if_pos hm
      have eW : absW (rW G a) (rW G b :: rest.map (rW G)) = absW (absorb (rW G a) (rW G b)) (rest.map (rW G)) := if_pos hm
      have eR : absR (rW G a) (rW G b :: rest.map (rW G)) = (if wO (rW G b) = 0 then [] else [setO (rW G b) 0]) ++ absR (absorb (rW G a) (rW G b)) (rest.map (rW G)) := if_pos hm
      have kk := k G' o' p' q' n' rest' spare' sr' y1 y2 y3 (by rw [List.map_cons, eL]; exact y4) (by rw [List.map_cons, eW]; exact y5) y6 y7 (fun y hy => hperm.mem_iff.mpr (y8 y hy)) (by rw [y9]; simp; omega) (by rw [List.map_cons, eR, y10, rr4, hrec, List.append_assoc]) (s4.tr y11) ?_ (by omega) (fun m hm' => by rw [y14 m (by omega), rr4, hrm m hm']) (by omega)
      · rw [List.map_cons, eF] at kk
        rw [mr, ha4]
        exact kk y16
      · have hcc : dp + dr = cp + cr := by
          have e1 := b9
          have e2 := a9
          omega
        have u1 := y12.1
        have u2 := y12.2
        have v1 := cs4.1
        have v2 := cs4.2
        have w1 := cs1.1
        have w2 := cs1.2
        have le1 : (pre ++ rest).length = pre.length + rest.length := by simp
        have le2 : (spare ++ [b]).length = spare.length + 1 := by simp
        exact ⟨by omega, by omega⟩
    refine wp_Ws_absorbMet_14 ws a si f (nI pre.length) (nI (rest.length + 1)) ⟨fun c => absurd c (show ¬ nI (rest.length + 1) ≤ (0 : Int32) from nI_ge (a := 0) (by omega) (by omega)), fun _ => ⟨a1, lr, a3, a7.tg, ?_⟩⟩
    rw [a7.sz, nI_leI (by omega) (by omega), nI_1 pre.length]
    refine ⟨fun c => absurd c (by omega), fun _ => ⟨b, a7.lg hb, x1, ha, fun c => next (fun z => c z.1), fun c1 => ⟨fun c => next (fun z => Int32.not_le.mpr z.2.1 c), fun c2 => ⟨fun c => next (fun z => Int32.not_le.mpr z.2.2 c), fun c3 => ?_⟩⟩⟩⟩
    have hm : meets (rW G a) (rW G b) := ⟨c1, Int32.not_le.mp c2, Int32.not_le.mp c3⟩
    refine ⟨fun c4 => fun G10 h10 => ⟨lp, a4, ?_⟩, fun c4 => ⟨hS.1, ?_⟩⟩
    · have c4 : wO (rW G b) = 0 := c4
      rw [h10]
      exact tail hm G o q n sr f hW hS (Stq.rf hw) Cs.rf (Nat.le_refl _) (by omega) (fun _ _ => rfl) (Nat.le_max_left _ _) (fun _ _ _ => rfl) ⟨rfl, rfl, rfl, rfl, rfl⟩ (if_pos c4).symm (by rw [if_pos c4, List.append_nil])
    · have c4 : ¬ wO (rW G b) = 0 := c4
      have st0 : Stq [ws] G o (sI G 453 b 0) o := (Stq.rf hw).wI (fun _ => by rw [x2]; exact in1)
      refine c_write (hS.stp hw st0 n1 n2) hw x1 (by rw [x2]; exact hd.1) (by rw [x2]; exact hd.2.1) (Or.inl rfl) (by omega) (by omega) (fun G1 o1 sr1 q1 y1 y2 y3 y4 y5 y6 => ?_)
      have hW0 := hW.wI (f := 453) (v := 0) hw x2 ⟨hW.ne.1, hW.ne.2.1⟩ (fun _ => Or.inl rfl)
      have hW1 := hW0.stp st0.wf y3 hdw.1 hdw.2.1 hdw.2.2
      have s1 : Stq [ws, lr, lp, si, ls] G o G1 o1 := (st0.mono hSub2).tr (y3.mono hSub)
      have hx1 : ∀ x, gT G x = 8 → o x = ws → rW G1 x = rW (sI G 453 b 0) x := fun x hx hox => rW_sm (y3.sm (hw x (by omega)) (by rw [hox]; exact hdw.1))
      have hb1 : rW G1 b = setO (rW G b) 0 := (hx1 b x1 x2).trans rW_sO
      refine wp_Ws_absorbMet_75 ws a si (nI pre.length) (nI (rest.length + 1)) b ⟨s1.tg' hw ha (by omega), s1.tg' hw x1 (by omega), fun G3 h3 => ⟨hW1.1, lp, hW1.2.2.2.1, lr, hW1.2.2.1, s1.tg' hw a7.tg (by omega), ?_⟩⟩
      rw [h3]
      refine tail hm G1 o1 q1 (n + 1) sr1 1 hW1 y1 s1 y4 (by omega) (by omega) (fun m hm' => by rw [y5 m hm']; exact hS.rec hw st0 n1 m) y6 (fun y hyb hy => ?_) ?_ (if_neg c4).symm (by rw [if_neg c4, y2, hS.rec hw st0 n1 n, rW_sO])
      · have ty : gT G y = 8 ∧ o y = ws := by
          rcases hy with hy | hy
          · have := a6.2 y (List.mem_append_left _ (by simp at hy ⊢; rcases hy with h | h <;> simp [h]))
            exact ⟨this.1, this.2.1⟩
          · rw [hy]; exact ⟨ha, hoa⟩
        rw [hx1 y ty.1 ty.2, rW_sI_ne hyb]
      · rw [hb1]; exact ⟨rfl, rfl, rfl, rfl, rfl⟩
