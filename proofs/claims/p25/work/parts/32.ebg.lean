def ebg1 (kd sz gr key start : Int32) : Int32 → List ET → Option Int32
  | f, [] => some f
  | f, e :: L => if admE kd sz gr key (-1) e then (if start ≤ eT e then ebg1 kd sz gr key start (f ||| (if eT e = start then 1 else 0)) L else if eT e + sz ≤ start then ebg1 kd sz gr key start (f ||| (if eT e = start then 1 else 0)) L else none) else ebg1 kd sz gr key start (f ||| 0) L
def ebg2 (kd sz gr key start : Int32) (L : List ET) : Nat → Int32 → Int32
  | 0, en => en
  | n + 1, en => if fur kd sz gr key start en L = en then en else ebg2 kd sz gr key start L n (fur kd sz gr key start en L)
def endG (kd sz gr key start : Int32) (L : List ET) (cl : Nat) : Int32 := match ebg1 kd sz gr key start 0 L with
  | none => -1
  | some f => if f = 0 then -1 else ebg2 kd sz gr key start L cl (start + sz)
theorem c_endByGap {E : EV} {G : GH} {Post : Res → GH → Prop} {o : Nat → Nat} {hi lh ga cl c jb : Nat} {cw kd sz gr key start : Int32} {evs : List Nat} (h : HiR E G o hi lh ga evs cl cw c) (hcl : cl ≤ evs.length) (hjb : gT G jb = 4) (hkd : gI G 192 jb = kd) (hsz : gI G 193 jb = sz) (hgr : gI G 195 jb = gr)
    (k : Post (.inl (some (.int (endG kd sz gr key start (cev G evs cl) cl)))) G) : Cl E 6 m_Hi_endByGap [.ref hi, .ref jb, .int key, .int start] G Post := by
  have hlen := h.len
  have loop2 : ∀ (m i : Nat) (en : Int32), m + i = cl → Post (.inl (some (.int (ebg2 kd sz gr key start (cev G evs cl) m en)))) G → J E 6 m_Hi_endByGap 104 [some (.ref hi), some (.ref jb), some (.int key), some (.int start), none, some (.int en), some (.int (nI i)), none] [] G Post := by
    intro m
    induction m with
    | zero =>
      intro i en hmi hp
      refine wp_Hi_endByGap_104 hi jb key start en (nI i) ⟨h.1, ?_⟩
      rw [h.2.2.2.1, nI_leI (by omega) (by omega)]
      exact ⟨fun _ => hp, fun z => absurd (by omega) z⟩
    | succ m ih =>
      intro i en hmi hp
      refine wp_Hi_endByGap_104 hi jb key start en (nI i) ⟨h.1, ?_⟩
      rw [h.2.2.2.1, nI_leI (by omega) (by omega)]
      refine ⟨fun z => absurd z (by omega), fun _ => c_furthestEnd h hcl hjb hkd hsz hgr (wp_Hi_endByGap_122 hi jb key start en (nI i) _ ?_)⟩
      rw [nI_1]
      have e : ebg2 kd sz gr key start (cev G evs cl) (m + 1) en = if fur kd sz gr key start en (cev G evs cl) = en then en else ebg2 kd sz gr key start (cev G evs cl) m (fur kd sz gr key start en (cev G evs cl)) := rfl
      rw [e] at hp
      refine ⟨fun c1 => ih (i + 1) _ (by omega) ?_, fun c1 => ?_⟩
      · rw [if_neg c1] at hp; exact hp
      · rw [if_pos c1] at hp; exact hp
  have loop1 : ∀ (m i : Nat) (f : Int32), m + i = cl → ebg1 kd sz gr key start f (((evs.take cl).drop i).map (rE G)) = ebg1 kd sz gr key start 0 (cev G evs cl) → J E 6 m_Hi_endByGap 6 [some (.ref hi), some (.ref jb), some (.int key), some (.int start), some (.int f), some (.int (nI i)), none, none] [] G Post := by
    intro m
    induction m with
    | zero =>
      intro i f hmi hf
      refine wp_Hi_endByGap_6 hi jb key start f (nI i) ⟨h.1, ?_⟩
      rw [h.2.2.2.1, nI_leI (by omega) (by omega)]
      rw [List.drop_eq_nil_of_le (by rw [List.length_take]; omega)] at hf
      have hf' : ebg1 kd sz gr key start 0 (cev G evs cl) = some f := hf.symm
      have e : endG kd sz gr key start (cev G evs cl) cl = if f = 0 then -1 else ebg2 kd sz gr key start (cev G evs cl) cl (start + sz) := by
        unfold endG
        rw [hf']
      rw [e] at k
      refine ⟨fun _ => ⟨fun c1 => ⟨hjb, ?_⟩, fun c1 => ?_⟩, fun z => absurd (by omega) z⟩
      · rw [if_neg c1] at k
        rw [hsz]
        exact loop2 cl 0 _ rfl k
      · rw [if_pos c1] at k
        exact k
    | succ m ih =>
      intro i f hmi hf
      obtain ⟨b, hb⟩ : ∃ b, evs[i]? = some b := ⟨_, List.getElem?_eq_getElem (by omega)⟩
      rw [take_drop_cons hb (by omega)] at hf
      have hf' : (if admE kd sz gr key (-1) (rE G b) then (if start ≤ eT (rE G b) then ebg1 kd sz gr key start (f ||| (if eT (rE G b) = start then 1 else 0)) (((evs.take cl).drop (i + 1)).map (rE G)) else if eT (rE G b) + sz ≤ start then ebg1 kd sz gr key start (f ||| (if eT (rE G b) = start then 1 else 0)) (((evs.take cl).drop (i + 1)).map (rE G)) else none) else ebg1 kd sz gr key start (f ||| 0) (((evs.take cl).drop (i + 1)).map (rE G))) = ebg1 kd sz gr key start 0 (cev G evs cl) := hf
      have next : ∀ g, ebg1 kd sz gr key start g (((evs.take cl).drop (i + 1)).map (rE G)) = ebg1 kd sz gr key start 0 (cev G evs cl) → J E 6 m_Hi_endByGap 6 [some (.ref hi), some (.ref jb), some (.int key), some (.int start), some (.int g), some (.int (nI (i + 1))), none, none] [] G Post := fun g hg => ih (i + 1) g (by omega) hg
      refine wp_Hi_endByGap_6 hi jb key start f (nI i) ⟨h.1, ?_⟩
      rw [h.2.2.2.1, nI_leI (by omega) (by omega)]
      refine ⟨fun z => absurd z (by omega), fun _ => c_admittedAt h hcl hjb hkd hsz hgr (by omega) hb (fun tb had => ?_) (fun hna => ?_)⟩
      · rw [if_pos had] at hf'
        refine wp_Hi_endByGap_24 hi jb key start f (nI i) (some b) ⟨fun z => (by cases z), fun r1 hr1 => ?_⟩
        rw [← Option.some.inj hr1, nI_1, hsz]
        refine ⟨tb, fun c1 => ?_, fun c1 => ⟨hjb, fun c2 => ?_, fun c2 => ?_⟩⟩
        · have c1 : start ≤ eT (rE G b) := c1
          rw [if_pos c1] at hf'
          refine ⟨fun c3 => next _ ?_, fun c3 => next _ ?_⟩
          · have c3 : ¬ eT (rE G b) = start := c3
            rw [if_neg c3] at hf'; exact hf'
          · have c3 : eT (rE G b) = start := c3
            rw [if_pos c3] at hf'; exact hf'
        · have c1 : ¬ start ≤ eT (rE G b) := c1
          have c2 : eT (rE G b) + sz ≤ start := c2
          rw [if_neg c1, if_pos c2] at hf'
          refine ⟨fun c3 => next _ ?_, fun c3 => next _ ?_⟩
          · have c3 : ¬ eT (rE G b) = start := c3
            rw [if_neg c3] at hf'; exact hf'
          · have c3 : eT (rE G b) = start := c3
            rw [if_pos c3] at hf'; exact hf'
        · have c1 : ¬ start ≤ eT (rE G b) := c1
          have c2 : ¬ eT (rE G b) + sz ≤ start := c2
          rw [if_neg c1, if_neg c2] at hf'
          have e : endG kd sz gr key start (cev G evs cl) cl = -1 := by
            unfold endG
            rw [← hf']
          rw [e] at k
          exact k
      · rw [if_neg hna] at hf'
        refine wp_Hi_endByGap_24 hi jb key start f (nI i) none ⟨fun _ => ?_, fun r1 hr1 => (by cases hr1)⟩
        rw [nI_1]
        exact next _ hf'
  refine j_enter (L := [some (.ref hi), some (.ref jb), some (.int key), some (.int start), none, none, none, none]) me_Hi_endByGap (cat_c rfl (cat_c rfl (cat_c rfl (cat_c rfl cat_n)))) (Nat.le_of_ble_eq_true rfl) rfl (wp_Hi_endByGap_0 hi jb key start ?_)
  exact loop1 cl 0 0 rfl rfl
