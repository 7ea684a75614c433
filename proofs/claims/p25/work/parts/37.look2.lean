theorem c_look {E : EV} {G : GH} {Post : Res → GH → Prop} {o : Nat → Nat} {x sr pn ng wn lr lp si ls p q n : Nat} {sc : Nat → Nat} {idl mkf : Nat → Int32} {rows spare srw : List Nat} {cm pr mk : Int32} (hx : gT G x = 10) (h577 : gR G 577 x = some sr) (hsr : gT G sr = 24) (hsn : gN G sr = 3) (hso : ∀ s, s < 3 → gO G sr s = some (sc s) ∧ gT G (sc s) = 7 ∧ gI G 386 (sc s) = idl s) (h578 : gR G 578 x = some pn) (hpn : gT G pn = 5) (hop : o pn = pn) (h258 : gR G 258 pn = some ng) (h263 : gR G 263 pn = some wn) (h581 : gR G 581 x = some si) (hng : gT G ng = 20) (hnn : gN G ng = 3)
    (hmk : ∀ s, s < 3 → (if (-1 : Int32) < gA G ng s - gI G 385 (sc s) then gA G ng s - gI G 385 (sc s) else -1) = mkf s)
    (hW : WsR E G o wn lr lp rows spare p) (hS : SiR E G o si ls srw cm pr n q) (hw : Wf G) (hd : wn ≠ si ∧ wn ≠ ls ∧ lr ≠ si ∧ lr ≠ ls ∧ lp ≠ si ∧ lp ≠ ls) (hp : pn ∉ [wn, lr, lp, si, ls]) (hn : n + rows.length ≤ 2999) (hl : srw.length ≤ 2999) (hm : mk = lwM (gI G 259 pn) (lwA idl mkf 3 0 0 (-1)))
    (k : ∀ G' o' q' n' srw', WsR E G' o' wn lr lp rows spare p → SiR E G' o' si ls srw' cm pr n' q' → rows.map (rW G') = emW mk (rows.map (rW G)) → recs G' srw' n' = recs G srw n ++ emR mk (rows.map (rW G)) → gI G' 259 pn = mk → (∀ f, f ≠ 259 → gI G' f pn = gI G f pn) → (∀ f, gR G' f pn = gR G f pn) → Stq [pn, wn, si, ls] G o G' o' → Cs G q G' q' → n ≤ n' → (∀ m, m ≤ n → recs G' srw' m = recs G srw m) → srw'.length ≤ max srw.length n' → (∀ q, q < gz G → q ≠ pn → o q ∉ [wn, si, ls] → Sm G G' q) → Post (.inl none) G') : Cl E 9 m_St_lookAtWatermark [.ref x] G Post := by
  refine j_enter (L := [some (.ref x), none, none, none, none]) me_St_lookAtWatermark (cat_c rfl cat_n) (Nat.le_of_ble_eq_true rfl) rfl (wp_St_lookAtWatermark_0 x ?_)
  refine c_look_loop hx h577 hsr hsn hso h578 hpn h258 hng hnn hmk ?_ 3 0 0 (-1) rfl rfl
  generalize lwA idl mkf 3 0 0 (-1) = al at *
  have np : wn ∉ [pn] ∧ lr ∉ [pn] ∧ lp ∉ [pn] ∧ si ∉ [pn] ∧ ls ∉ [pn] := by
    simp at hp ⊢
    exact ⟨fun z => hp.1 z.symm, fun z => hp.2.1 z.symm, fun z => hp.2.2.1 z.symm, fun z => hp.2.2.2.1 z.symm, fun z => hp.2.2.2.2 z.symm⟩
  have np2 : pn ∉ [wn, si, ls] := by simp at hp ⊢; exact ⟨hp.1, hp.2.2.2.1, hp.2.2.2.2⟩
  have fin : ∀ G1, Stq [pn] G o G1 o → gI G1 259 pn = mk → (∀ f, f ≠ 259 → gI G1 f pn = gI G f pn) → (∀ f, gR G1 f pn = gR G f pn) → gz G1 = gz G → gs G1 = gs G → (∀ q, q ≠ pn → Sm G G1 q) → Cl E 8 m_Ws_emitDue [.ref wn, .int mk, .ref si] G1 (aft E 9 m_St_lookAtWatermark 94 [none, none, none, none, none] [] Post) := by
    intro G1 s1 e1 e2 e3 e4 e5 e6
    have hW1 := hW.stp hw s1 np.1 np.2.1 np.2.2.1
    have hS1 := hS.stp hw s1 np.2.2.2.1 np.2.2.2.2
    refine j_enter (L := [some (.ref wn), some (.int mk), some (.ref si), none, none]) me_Ws_emitDue (cat_c rfl (cat_c rfl (cat_c rfl cat_n))) (Nat.le_of_ble_eq_true rfl) rfl (wp_Ws_emitDue_0 wn mk si ?_)
    refine c_emitDue hd rows [] G1 o p q n srw rfl hW1 hS1 s1.wf hn hl (fun G' o' q' n' sr' y1 y2 y3 y4 y5 y6 y7 y8 y9 y10 => wp_St_lookAtWatermark_97 (k G' o' q' n' sr' y1 y2 ?_ ?_ ?_ ?_ ?_ ?_ ?_ y8 ?_ y10 ?_))
    all_goals have wrows : rows.map (rW G1) = rows.map (rW G) := (hW.2.2.2.2.2.1.sub (List.sublist_append_left _ _)).map hw s1 np.1
    all_goals have spn := y6.sm (q := pn) (s1.wf pn (by rw [s1.tg' hw hpn (by omega)]; omega)) (by rw [hop]; exact np2)
    · rw [y4, wrows]
    · rw [y5, wrows, hS.rec hw s1 np.2.2.2.1 n]
    · rw [spn.2.2.1]; exact e1
    · exact fun f hf => (spn.2.2.1 f).trans (e2 f hf)
    · exact fun f => (spn.2.2.2.1 f).trans (e3 f)
    · exact (s1.mono (by simp)).tr (y6.mono (fun z hz => List.mem_cons_of_mem _ hz))
    · have v1 := y7.1
      have v2 := y7.2
      exact ⟨by omega, by omega⟩
    · exact fun m hm' => (y9 m hm').trans (hS.rec hw s1 np.2.2.2.1 m)
    · exact fun z hz hn' ho' => (e6 z hn').tr (y6.sm (by rw [e4]; exact hz) ho')
  refine wp_St_lookAtWatermark_6 x al.1 al.2 3 ⟨fun _ => ⟨fun c => ⟨hx, pn, h578, hpn, wn, h263, si, h581, hW.1, ?_⟩, fun c => ⟨hx, pn, h578, hpn, wn, h263, si, h581, hW.1, ?_⟩⟩, fun z => absurd (by decide +kernel) z⟩
  · have e : mk = gI G 259 pn := by rw [hm]; exact if_pos c
    rw [← e]
    exact fin G (Stq.rf hw) e.symm (fun _ _ => rfl) (fun _ => rfl) rfl rfl (fun _ _ => Sm.rf)
  · have e : mk = if gI G 259 pn < al.2 then al.2 else gI G 259 pn := by rw [hm]; exact if_neg c
    rw [← e]
    exact fin _ ((Stq.rf hw).wI (fun _ => by rw [hop]; exact in1)) gI_sI_eq (fun f hf => by rw [gI_sI, if_neg (fun z => hf z.1)]) (fun _ => rfl) rfl rfl (fun _ hq => sI_sm hq)
