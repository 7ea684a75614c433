/-! steps with owners: o says for an address whose it is; S names the owners whose cells may change -/
def Wf (G : GH) : Prop := ∀ a, gT G a ≠ 0 → a < gz G
def uo (o : Nat → Nat) (a r : Nat) : Nat → Nat := fun q => if q = a then r else o q
def Stq (S : List Nat) (G : GH) (o : Nat → Nat) (G' : GH) (o' : Nat → Nat) : Prop :=
  Wf G' ∧ gz G ≤ gz G' ∧ ∀ q, q < gz G → (o' q = o q ∧ gT G' q = gT G q ∧ gN G' q = gN G q) ∧ (o q ∉ S → Sm G G' q)
theorem Stq.wf {S : List Nat} {G G' : GH} {o o' : Nat → Nat} (h : Stq S G o G' o') : Wf G' := h.1
theorem Stq.le {S : List Nat} {G G' : GH} {o o' : Nat → Nat} (h : Stq S G o G' o') : gz G ≤ gz G' := h.2.1
theorem Stq.ow {S : List Nat} {G G' : GH} {o o' : Nat → Nat} {q : Nat} (h : Stq S G o G' o') (hq : q < gz G) : o' q = o q := (h.2.2 q hq).1.1
theorem Stq.tg {S : List Nat} {G G' : GH} {o o' : Nat → Nat} {q : Nat} (h : Stq S G o G' o') (hq : q < gz G) : gT G' q = gT G q := (h.2.2 q hq).1.2.1
theorem Stq.ln {S : List Nat} {G G' : GH} {o o' : Nat → Nat} {q : Nat} (h : Stq S G o G' o') (hq : q < gz G) : gN G' q = gN G q := (h.2.2 q hq).1.2.2
theorem Stq.sm {S : List Nat} {G G' : GH} {o o' : Nat → Nat} {q : Nat} (h : Stq S G o G' o') (hq : q < gz G) (hn : o q ∉ S) : Sm G G' q := (h.2.2 q hq).2 hn
theorem Stq.tg' {S : List Nat} {G G' : GH} {o o' : Nat → Nat} {q t : Nat} (h : Stq S G o G' o') (hw : Wf G) (ht : gT G q = t) (h0 : t ≠ 0) : gT G' q = t := (h.tg (hw q (by rw [ht]; exact h0))).trans ht
/-- what it cost, p the room that is in use -/
def Cs (G : GH) (p : Nat) (G' : GH) (p' : Nat) : Prop := gz G' + p ≤ gz G + p' ∧ gs G' + 6 * p ≤ gs G + 6 * p'
theorem Cs.rf {G : GH} {p : Nat} : Cs G p G p := ⟨Nat.le_refl _, Nat.le_refl _⟩
theorem Cs.tr {G G1 G2 : GH} {p p1 p2 : Nat} (h : Cs G p G1 p1) (h' : Cs G1 p1 G2 p2) : Cs G p G2 p2 := ⟨by have := h.1; have := h'.1; omega, by have := h.2; have := h'.2; omega⟩
theorem Cs.up {G G1 : GH} {p p1 q q1 : Nat} (h : Cs G p G1 p1) (e : q + p1 ≤ q1 + p) : Cs G q G1 q1 := ⟨by have := h.1; omega, by have := h.2; omega⟩
theorem uo_ne {o : Nat → Nat} {a r q : Nat} (h : q ≠ a) : uo o a r q = o q := if_neg h
theorem uo_eq {o : Nat → Nat} {a r : Nat} : uo o a r a = r := if_pos rfl
theorem Stq.rf {S : List Nat} {G : GH} {o : Nat → Nat} (h : Wf G) : Stq S G o G o := ⟨h, Nat.le_refl _, fun _ _ => ⟨⟨rfl, rfl, rfl⟩, fun _ => Sm.rf⟩⟩
theorem Stq.tr {S : List Nat} {G G1 G2 : GH} {o o1 o2 : Nat → Nat} (h : Stq S G o G1 o1) (h' : Stq S G1 o1 G2 o2) : Stq S G o G2 o2 := by
  refine ⟨h'.1, Nat.le_trans h.2.1 h'.2.1, fun q hq => ?_⟩
  obtain ⟨a1, a2⟩ := h.2.2 q hq
  obtain ⟨b1, b2⟩ := h'.2.2 q (Nat.lt_of_lt_of_le hq h.2.1)
  exact ⟨⟨b1.1.trans a1.1, b1.2.1.trans a1.2.1, b1.2.2.trans a1.2.2⟩, fun hn => (a2 hn).tr (b2 (by rw [a1.1]; exact hn))⟩
theorem Stq.mono {S S' : List Nat} {G G1 : GH} {o o1 : Nat → Nat} (h : Stq S G o G1 o1) (hs : ∀ x, x ∈ S → x ∈ S') : Stq S' G o G1 o1 :=
  ⟨h.1, h.2.1, fun q hq => ⟨(h.2.2 q hq).1, fun hn => (h.2.2 q hq).2 (fun c => hn (hs _ c))⟩⟩
theorem Stq.wr {S : List Nat} {G G1 G2 : GH} {o o1 : Nat → Nat} {a : Nat} (h : Stq S G o G1 o1) (ha : a < gz G → o a ∈ S) (hT : ∀ q, gT G2 q = gT G1 q) (hN : ∀ q, gN G2 q = gN G1 q) (hz : gz G2 = gz G1) (hs : ∀ q, q ≠ a → Sm G1 G2 q) : Stq S G o G2 o1 := by
  refine ⟨fun q hq => ?_, by rw [hz]; exact h.2.1, fun q hq => ⟨⟨h.ow hq, (hT q).trans (h.tg hq), (hN q).trans (h.ln hq)⟩, fun hn => (h.sm hq hn).tr (hs q (fun c => hn (c ▸ ha (c ▸ hq))))⟩⟩
  rw [hz]; exact h.1 q (by rw [← hT q]; exact hq)
theorem Stq.wI {S : List Nat} {G G1 : GH} {o o1 : Nat → Nat} {f a : Nat} {v : Int32} (h : Stq S G o G1 o1) (ha : a < gz G → o a ∈ S) : Stq S G o (sI G1 f a v) o1 := h.wr ha (fun _ => rfl) (fun _ => rfl) rfl (fun _ => sI_sm)
theorem Stq.wR {S : List Nat} {G G1 : GH} {o o1 : Nat → Nat} {f a : Nat} {v : Option Nat} (h : Stq S G o G1 o1) (ha : a < gz G → o a ∈ S) : Stq S G o (sR G1 f a v) o1 := h.wr ha (fun _ => rfl) (fun _ => rfl) rfl (fun _ => sR_sm)
theorem Stq.wA {S : List Nat} {G G1 : GH} {o o1 : Nat → Nat} {i a : Nat} {v : Int32} (h : Stq S G o G1 o1) (ha : a < gz G → o a ∈ S) : Stq S G o (sA G1 a i v) o1 := h.wr ha (fun _ => rfl) (fun _ => rfl) rfl (fun _ => sA_sm)
theorem Stq.wO {S : List Nat} {G G1 : GH} {o o1 : Nat → Nat} {i a : Nat} {v : Option Nat} (h : Stq S G o G1 o1) (ha : a < gz G → o a ∈ S) : Stq S G o (sO G1 a i v) o1 := h.wr ha (fun _ => rfl) (fun _ => rfl) rfl (fun _ => sO_sm)
theorem Stq.wL {S : List Nat} {G G1 : GH} {o o1 : Nat → Nat} {i a : Nat} {v : Int64} (h : Stq S G o G1 o1) (ha : a < gz G → o a ∈ S) : Stq S G o (sL G1 a i v) o1 := h.wr ha (fun _ => rfl) (fun _ => rfl) rfl (fun _ => sL_sm)
theorem Stq.wW {S : List Nat} {G G1 : GH} {o o1 : Nat → Nat} {a : Nat} {v : Nat → Option Nat} (h : Stq S G o G1 o1) (ha : a < gz G → o a ∈ S) : Stq S G o (sW G1 a v) o1 := h.wr ha (fun _ => rfl) (fun _ => rfl) rfl (fun _ => sW_sm)
theorem Stq.al {S : List Nat} {G G1 : GH} {o o1 : Nat → Nat} {t n : Nat} (r : Nat) (h : Stq S G o G1 o1) : Stq S G o (al G1 t n) (uo o1 (gz G1) r) := by
  have hz := h.2.1
  refine ⟨fun q hq => ?_, Nat.le_succ_of_le hz, fun q hq => ?_⟩
  · show q < gz G1 + 1
    rw [gT_al] at hq
    by_cases c : q = gz G1
    · omega
    · rw [if_neg c] at hq
      have := h.1 q hq
      omega
  · have hne : q ≠ gz G1 := by omega
    exact ⟨⟨(uo_ne hne).trans (h.ow hq), (if_neg hne).trans (h.tg hq), (if_neg hne).trans (h.ln hq)⟩, fun hn => (h.sm hq hn).tr (al_sm hne)⟩
theorem Stq.bump {S : List Nat} {G G1 : GH} {o o1 : Nat → Nat} {k n : Nat} (h : Stq S G o G1 o1) : Stq S G o (bump G1 k n) o1 := by
  have hz := h.2.1
  refine ⟨fun q hq => ?_, Nat.le_trans hz (Nat.le_add_right _ _), fun q hq => ⟨⟨h.ow hq, (if_pos (by omega)).trans (h.tg hq), h.ln hq⟩, fun hn => (h.sm hq hn).tr (bump_sm (by omega))⟩⟩
  · show q < gz G1 + k
    rw [gT_bump] at hq
    by_cases c : q < gz G1
    · omega
    · rw [if_neg c] at hq; exact absurd rfl hq
/-- the list object l: its elements xs, the room c of its row e -/
def LAe (E : EV) (G : GH) (o : Nat → Nat) (l e : Nat) (xs : List Nat) (c : Nat) : Prop :=
  gT G l = 12 ∧ gR G 705 l = some e ∧ gI G 706 l = nI xs.length ∧ gN G e = c ∧ xs.length ≤ c ∧ c ≤ 6000 ∧ o l = l ∧
  ((e = eC E ∧ gT G e = 26 ∧ c = 0) ∨ (gT G e = 23 ∧ 2 ≤ c ∧ o e = l ∧ ∀ i, gO G e i = xs[i]?))
def LA (E : EV) (G : GH) (o : Nat → Nat) (l : Nat) (xs : List Nat) (c : Nat) : Prop := ∃ e, LAe E G o l e xs c
theorem LA.lg {E : EV} {G : GH} {o : Nat → Nat} {l n b c : Nat} {xs : List Nat} (h : LA E G o l xs c) (hb : xs[n]? = some b) : LG G l (nI n) b := by
  obtain ⟨e, h1, h2, h3, h4, h5, h6, h7, h8⟩ := h
  have hn : n < xs.length := (List.getElem?_eq_some_iff.mp hb).1
  rcases h8 with ⟨h8, h9, h10⟩ | ⟨h8, h9, h10, h11⟩
  · omega
  · exact ⟨h1, nI_pos (by omega), by rw [h3]; exact nI_lt hn (by omega), e, n, h2, h8, IX.nI (by omega) (by omega), (h11 n).trans hb⟩
theorem LAe.same {E : EV} {G G' : GH} {o o' : Nat → Nat} {l e c : Nat} {xs : List Nat} (h : LAe E G o l e xs c) (hl : Sm G G' l) (he : Sm G G' e) (ol : o' l = o l) (oe : o' e = o e) : LAe E G' o' l e xs c := by
  obtain ⟨h1, h2, h3, h4, h5, h6, h7, h8⟩ := h
  refine ⟨by rw [hl.1]; exact h1, by rw [hl.2.2.2.1]; exact h2, by rw [hl.2.2.1]; exact h3, by rw [he.2.1]; exact h4, h5, h6, ol.trans h7, ?_⟩
  rw [he.1, oe]
  refine h8.imp id (fun h => ⟨h.1, h.2.1, h.2.2.1, fun i => ?_⟩)
  rw [he.2.2.2.2.2.1]; exact h.2.2.2 i
/-- the list is the same behind a step that is none of its business -/
theorem LA.stp {E : EV} {S : List Nat} {G G' : GH} {o o' : Nat → Nat} {l c : Nat} {xs : List Nat} (h : LA E G o l xs c) (hw : Wf G) (s : Stq S G o G' o') (hl : l ∉ S) : LA E G' o' l xs c := by
  obtain ⟨e, h1, h2, h3, h4, h5, h6, h7, h8⟩ := h
  have sl := s.sm (hw l (by omega)) (by rw [h7]; exact hl)
  have hez := hw e (by omega)
  refine ⟨e, by rw [sl.1]; exact h1, by rw [sl.2.2.2.1]; exact h2, by rw [sl.2.2.1]; exact h3, (s.ln hez).trans h4, h5, h6, (s.ow (hw l (by omega))).trans h7, ?_⟩
  rw [s.tg hez, s.ow hez]
  refine h8.imp id (fun h => ⟨h.1, h.2.1, h.2.2.1, fun i => ?_⟩)
  have se := s.sm hez (by rw [h.2.2.1]; exact hl)
  rw [se.2.2.2.2.2.1]; exact h.2.2.2 i
theorem shr1 {n : Nat} (h : n < 10000) : nI n >>> ((1 : Int32) &&& 31) = nI (n / 2) := by
  have e : ((1 : Int32) &&& 31) = 1 := by decide +kernel
  rw [e]
  apply Int32.toInt_inj.mp
  have e1 : (BitVec.smod (1 : Int32).toBitVec 32).toNat = 1 := by decide +kernel
  have e2 : (nI n).toBitVec.toInt = (n : Int) := nI_toInt (by omega)
  show (nI n >>> (1 : Int32)).toBitVec.toInt = _
  rw [Int32.toBitVec_shiftRight, BitVec.sshiftRight_eq', e1, BitVec.toInt_sshiftRight, e2, nI_toInt (by omega), Int.shiftRight_eq_div_pow]
  omega
theorem cl0 : (0 : Int32).toNatClampNeg = 0 := by decide +kernel
theorem OB.of8 {G : GH} {b : Nat} (h : gT G b = 8) : OB G b := ⟨7, _, h, rfl, by decide +kernel⟩
theorem OB.of2 {G : GH} {b : Nat} (h : gT G b = 2) : OB G b := ⟨1, _, h, rfl, by decide +kernel⟩
theorem OB.eqT {G G' : GH} {b : Nat} (h : OB G b) (e : gT G' b = gT G b) : OB G' b := by
  obtain ⟨cb, q, h1, h2⟩ := h
  exact ⟨cb, q, e.trans h1, h2⟩
theorem OB.ne {G : GH} {b : Nat} (h : OB G b) : gT G b ≠ 0 := by
  obtain ⟨cb, q, h1, h2⟩ := h
  omega
theorem OB.ne23 {G : GH} {b : Nat} (h : OB G b) : gT G b < 20 := by
  obtain ⟨cb, q, h1, h2, -⟩ := h
  have := (kcl_ok cb q h2).2.2.2.2
  omega
theorem c_copyOf {E : EV} {G : GH} {Post : Res → GH → Prop} {e m : Nat} (hT : gT G e = 23) (hw : Wf G) (hn : gN G e ≤ m) (hm : m ≤ 20000) (hob : ∀ i b, gO G e i = some b → OB G b)
    (k : Post (.inl (some (.ref (gz G)))) (sW (al G 23 m) (gz G) (fun i => if i < gN G e then gO G e i else none))) : Cl E 2 m_Ar_copyOf [.ref e, .int (nI m)] G Post := by
  have hez : e ≠ gz G := by
    have := hw e (by omega)
    omega
  refine j_enter (L := [some (.ref e), some (.int (nI m))]) me_Ar_copyOf (cat_c rfl (cat_c rfl cat_n)) (Nat.le_of_ble_eq_true rfl) rfl (wp_Ar_copyOf_0 e (nI m) ⟨Or.inl hT, ?_⟩)
  refine j_enter (L := [some (.ref e), some (.int (nI m)), some (.ref (eM E)), none]) me_Ar_copyOf3 (cat_c rfl (cat_c rfl (cat_c rfl cat_n))) (Nat.le_of_ble_eq_true rfl) rfl (wp_Ar_copyOf3_0 e (nI m) (eM E) ⟨fun c => c rfl, fun _ => ⟨m, ⟨nI_pos (by omega), nI_clamp (by omega), by omega⟩, fun G3 h3 => ?_⟩⟩)
  have t1 : gT G3 e = 23 := by rw [h3, gT_al, if_neg hez]; exact hT
  have t2 : gN G3 e = gN G e := by rw [h3, gN_al, if_neg hez]
  have t3 : gT G3 (gz G) = 23 := by rw [h3, gT_al, if_pos rfl]
  have t4 : gN G3 (gz G) = m := by rw [h3, gN_al, if_pos rfl]
  have t5 : (if nI m < nI (gN G e) then nI m else nI (gN G e)) = nI (gN G e) := if_neg (nI_nlt hn (by omega))
  have t6 : ∀ i, gO G3 e i = gO G e i := fun i => by rw [h3, gO_al, if_neg hez]
  rw [t2, t5, nI_clamp (by omega), cl0]
  refine ⟨by omega, ⟨Or.inl t1, t3, by decide +kernel, by decide +kernel, nI_pos (by omega), by omega, by omega, fun i hi v hv => ?_⟩, wp_Ar_copyOf_9 _ ?_⟩
  · rw [t6] at hv
    refine (hob _ v hv).eqT ?_
    have h0 := hw v (hob _ v hv).ne
    rw [h3, gT_al, if_neg (by omega)]
  · have e1 : va_cpy (gO G3 e) (gO G3 (gz G)) 0 0 (gN G e) = fun i => if i < gN G e then gO G e i else none := by
      funext i
      show (if 0 ≤ i ∧ i < 0 + gN G e then gO G3 e (0 + (i - 0)) else gO G3 (gz G) i) = _
      by_cases c : i < gN G e
      · rw [if_pos ⟨Nat.zero_le _, by omega⟩, if_pos c, t6, Nat.zero_add, Nat.sub_zero]
      · rw [if_neg (fun h => c (by omega)), if_neg c, h3, gO_al, if_pos rfl]
    rw [e1, h3]
    exact k
/-- what grow() leaves -/
def GrowP (G : GH) (l e c : Nat) (G' : GH) : Prop := gz G' = gz G + 1 ∧ gs G' = gs G + capN c ∧ gT G' (gz G) = 23 ∧ gN G' (gz G) = capN c ∧ (∀ i, gO G' (gz G) i = if i < c then gO G e i else none) ∧ gT G' l = gT G l ∧ gI G' 706 l = gI G 706 l ∧ gR G' 705 l = some (gz G) ∧ ∀ S o, gz G ≤ gz G → Wf G → o l ∈ S → Stq S G o G' (uo o (gz G) l)
theorem grow_P {G : GH} {l e c : Nat} {row : Nat → Option Nat} (hw : Wf G) (hl : gT G l = 12) (hr : ∀ i, row i = if i < c then gO G e i else none) : GrowP G l e c (sR (sW (al G 23 (capN c)) (gz G) row) 705 l (some (gz G))) := by
  have hlz : l ≠ gz G := by
    have := hw l (by omega)
    omega
  refine ⟨rfl, rfl, if_pos rfl, if_pos rfl, fun i => ?_, if_neg hlz, if_neg hlz, gR_sR_eq, fun S o _ hw ho => ?_⟩
  · rw [gO_sR, gO_sW, if_pos rfl]; exact hr i
  · exact (((Stq.rf hw).al l).wW (fun c => absurd c (Nat.lt_irrefl _))).wR (fun _ => ho)
theorem c_AL_grow {E : EV} {G : GH} {Post : Res → GH → Prop} {l e c : Nat} (hw : Wf G) (hl : gT G l = 12) (he : gR G 705 l = some e) (hs : gI G 706 l = nI c) (hc : gN G e = c) (hb : c ≤ 6000) (hE : (e = eC E ∧ gT G e = 26 ∧ c = 0) ∨ (gT G e = 23 ∧ 2 ≤ c ∧ ∀ i b, gO G e i = some b → OB G b))
    (k : ∀ G', GrowP G l e c G' → Post (.inl (some (.ref (gz G)))) G') : Cl E 4 m_AL_grow [.ref l] G Post := by
  refine j_enter (L := [some (.ref l)]) me_AL_grow (cat_c rfl cat_n) (Nat.le_of_ble_eq_true rfl) rfl (wp_AL_grow_0 l ⟨hl, ?_⟩)
  rw [hs]
  refine j_enter (L := [some (.ref l), some (.int (nI c + 1)), none, none]) me_AL_grow1 (cat_c rfl (cat_c rfl cat_n)) (Nat.le_of_ble_eq_true rfl) rfl (wp_AL_grow1_0 l (nI c + 1) ⟨hl, e, he, ?_⟩)
  rw [hc]
  rcases hE with ⟨h1, h2, h3⟩ | ⟨h1, h2, h3⟩
  · refine ⟨by omega, fun c1 => absurd c1 (by rw [h3]; decide +kernel), fun _ => ⟨fun _ => ⟨10, ⟨?_, ?_, by omega⟩, fun G11 h11 => ?_⟩, fun c1 => absurd h1 c1⟩⟩
    · rw [h3]; decide +kernel
    · rw [h3]; decide +kernel
    · have hlz : l ≠ gz G := by
        have := hw l (by omega)
        omega
      refine ⟨by rw [h11, gT_al, if_neg hlz]; exact hl, wp_AL_grow_10 _ (k _ ?_)⟩
      have e1 : G11 = sW (al G 23 (capN c)) (gz G) (fun _ => none) := by
        have e2 : up1 (gO (al G 23 10)) (gz G) (fun _ => none) = gO (al G 23 10) := by
          funext a i
          show (if a = gz G then fun _ => none else gO (al G 23 10) a) i = _
          by_cases ca : a = gz G
          · rw [if_pos ca, gO_al, if_pos ca]
          · rw [if_neg ca]
        rw [h11, h3]
        show _ = (gT _, gI _, gR _, gN _, gA _, up1 (gO (al G 23 10)) (gz G) (fun _ => none), gL _, gz _, gs _)
        rw [e2]
        rfl
      rw [e1]
      exact grow_P hw hl (fun i => by rw [h3, if_neg (Nat.not_lt_zero _)])
  · have a1 : nI c + 1 - nI c = 1 := by rw [nI_1, Int32.sub_eq_add_neg, ← nI_1]; rw [Int32.add_comm, ← Int32.add_assoc, Int32.add_comm (-nI c), Int32.add_right_neg, Int32.zero_add]
    have a2 : (if nI c + 1 - nI c < nI c >>> ((1 : Int32) &&& 31) then nI c >>> ((1 : Int32) &&& 31) else nI c + 1 - nI c) = nI (c / 2) := by
      rw [a1, shr1 (by omega)]
      by_cases cc : (1 : Int32) < nI (c / 2)
      · rw [if_pos cc]
      · rw [if_neg cc]
        have : ¬ 1 < c / 2 := fun z => cc (nI_lt (a := 1) z (by omega))
        have e3 : c / 2 = 1 := by omega
        rw [e3]; rfl
    rw [a2, nI_add]
    have hcap : c + c / 2 = capN c := by unfold capN; rw [if_neg (by omega)]
    rw [hcap]
    have hcc : capN c ≤ 9000 := by omega
    have main : Cl E 2 m_Ar_copyOf [.ref e, .int (nI (capN c))] G (aft E 3 m_AL_grow1 37 [none, none, none, none] [.ref l] (aft E 4 m_AL_grow 7 [none] [] Post)) := by
      refine c_copyOf h1 hw (by omega) (by omega) h3 ?_
      have hlz : l ≠ gz G := by
        have := hw l (by omega)
        omega
      refine wp_AL_grow1_40 l (gz G) ⟨?_, wp_AL_grow_10 _ (k _ ?_)⟩
      · rw [gT_sW, gT_al, if_neg hlz]; exact hl
      · exact grow_P hw hl (fun i => by rw [hc])
    have n1 : ¬ nI (capN c) ≤ 0 := nI_nle (by omega) (by omega)
    have n2 : ¬ (2147483639 : Int32) < nI (capN c) := nI_nlt (a := 2147483639) (by omega) (by omega)
    exact ⟨by omega, fun _ => ⟨fun c1 => absurd c1 n1, fun _ => ⟨fun c1 => absurd c1 n2, fun _ => main⟩⟩, fun c1 => absurd (show (0 : Int32) < nI c from nI_lt (a := 0) (by omega) (by omega)) c1⟩
theorem LAe.ob {E : EV} {G : GH} {o : Nat → Nat} {l e c : Nat} {xs : List Nat} (h : LAe E G o l e xs c) (hx : ∀ x ∈ xs, OB G x) : (e = eC E ∧ gT G e = 26 ∧ c = 0) ∨ (gT G e = 23 ∧ 2 ≤ c ∧ ∀ i b, gO G e i = some b → OB G b) := by
  obtain ⟨h1, h2, h3, h4, h5, h6, h7, h8⟩ := h
  refine h8.imp id (fun h => ⟨h.1, h.2.1, fun i b hb => hx b ?_⟩)
  rw [h.2.2.2 i] at hb
  exact List.mem_of_getElem? hb
/-- behind grow(): the same elements in a larger row -/
theorem GrowP.la {E : EV} {G G' : GH} {o : Nat → Nat} {l e c : Nat} {xs : List Nat} (h : LAe E G o l e xs c) (hw : Wf G) (hx : xs.length = c) (hc : c ≤ 3000) (g : GrowP G l e c G') : LAe E G' (uo o (gz G)  l) l (gz G) xs (capN c) := by
  obtain ⟨h1, h2, h3, h4, h5, h6, h7, h8⟩ := h
  obtain ⟨g1, g2, g3, g4, g5, g6, g7, g8, g9⟩ := g
  have hlz : l ≠ gz G := by
    have := hw l (by omega)
    omega
  have hc2 : capN c = if c = 0 then 10 else c + c / 2 := rfl
  have hc3 : c ≤ capN c ∧ 2 ≤ capN c ∧ capN c ≤ 6000 := by
    rw [hc2]
    rcases h8 with h8 | h8
    · rw [if_pos h8.2.2]; omega
    · rw [if_neg (by omega)]; omega
  refine ⟨g6.trans h1, g8, g7.trans h3, g4, by omega, by omega, (uo_ne hlz).trans h7, Or.inr ⟨g3, hc3.2.1, uo_eq, fun i => ?_⟩⟩
  rw [g5]
  by_cases ci : i < c
  · rw [if_pos ci]
    rcases h8 with h8 | h8
    · omega
    · exact h8.2.2.2 i
  · rw [if_neg ci, List.getElem?_eq_none (by omega)]
theorem capN_cost {c : Nat} (h : c = 0 ∨ 2 ≤ c) : c + 1 ≤ capN c ∧ capN c + 6 * c ≤ 6 * capN c := by
  have hc2 : capN c = if c = 0 then 10 else c + c / 2 := rfl
  rw [hc2]
  by_cases c0 : c = 0
  · rw [if_pos c0]; omega
  · rw [if_neg c0]; omega
theorem GrowP.cs {G G' : GH} {l e c : Nat} (hc : c = 0 ∨ 2 ≤ c) (g : GrowP G l e c G') : Cs G c G' (capN c) := by
  have := capN_cost hc
  exact ⟨by rw [g.1]; omega, by rw [g.2.1]; omega⟩
theorem getElem?_snoc (xs : List Nat) (b i : Nat) : (xs ++ [b])[i]? = if i = xs.length then some b else xs[i]? := by
  by_cases h : i < xs.length
  · rw [List.getElem?_append_left h, if_neg (by omega)]
  · rw [List.getElem?_append_right (by omega)]
    by_cases h2 : i = xs.length
    · rw [if_pos h2, h2, Nat.sub_self]; rfl
    · rw [if_neg h2, List.getElem?_eq_none (by simp; omega), List.getElem?_eq_none (by omega)]
theorem c_AL_add {E : EV} {G : GH} {Post : Res → GH → Prop} {o : Nat → Nat} {l b c : Nat} {xs : List Nat} (h : LA E G o l xs c) (hw : Wf G) (hx : ∀ x ∈ xs, OB G x) (hb : OB G b) (hn : xs.length ≤ 2999)
    (k : ∀ G' o' c', LA E G' o' l (xs ++ [b]) c' → Stq [l] G o G' o' → Cs G c G' c' → Post (.inl (some (.int 1))) G') : Cl E 6 m_AL_add [.ref l, .ref b] G Post := by
  obtain ⟨e, h⟩ := h
  obtain ⟨h1, h2, h3, h4, h5, h6, h7, h8⟩ := id h
  have hob := h.ob hx
  have hel : e ≠ l := fun z => by
    rcases h8 with h8 | h8 <;> rw [z, h1] at h8 <;> omega
  have hlz := hw l (by omega)
  have hez := hw e (by rcases h8 with h8 | h8 <;> omega)
  refine j_enter (L := [some (.ref l), some (.ref b)]) me_AL_add (cat_c rfl (cat_c rfl cat_n)) (Nat.le_of_ble_eq_true rfl) rfl (wp_AL_add_0 l b ⟨h1, e, h2, ?_⟩)
  rw [h3]
  generalize hG1 : sI G 704 l (gI G 704 l + 1) = G1
  have s1 : Stq [l] G o G1 o := hG1 ▸ (Stq.rf hw).wI (fun _ => by rw [h7]; exact List.mem_singleton.mpr rfl)
  have w1 : Wf G1 := s1.1
  have z1 : gz G1 = gz G := by rw [← hG1]; rfl
  have hG : LAe E G1 o l e xs c := by
    subst hG1
    exact ⟨h1, h2, by rw [gI_sI, if_neg (fun z => absurd z.1 (by omega))]; exact h3, h4, h5, h6, h7, h8⟩
  have hx1 : ∀ x ∈ xs, OB G1 x := by subst hG1; exact hx
  have hb1 : OB G1 b := by subst hG1; exact hb
  refine j_enter (L := [some (.ref l), some (.ref b), some (.ref e), some (.int (nI xs.length))]) me_AL_add3 (cat_c rfl (cat_c rfl (cat_c rfl (cat_c rfl cat_n)))) (Nat.le_of_ble_eq_true rfl) rfl (wp_AL_add3_0 l b e (nI xs.length) ?_)
  obtain ⟨a1, a2, a3, a4, a5, a6, a7, a8⟩ := id hG
  rw [a4, nI_eq (by omega) (by omega)]
  refine ⟨by omega, fun hlt => ?_, fun heq => ⟨a1, ?_⟩⟩
  · have h9 : gT G1 e = 23 ∧ 2 ≤ c ∧ o e = l ∧ ∀ i, gO G1 e i = xs[i]? := by
      rcases a8 with a8 | a8
      · omega
      · exact a8
    refine ⟨h9.1, xs.length, IX.nI (by omega) (by omega), hb1, a1, wp_AL_add_23 (k _ o c ⟨e, ?_⟩ ?_ ?_)⟩
    · refine ⟨a1, a2, ?_, a4, by simp; omega, a6, a7, Or.inr ⟨h9.1, h9.2.1, h9.2.2.1, fun i => ?_⟩⟩
      · rw [gI_sI, if_pos ⟨rfl, rfl⟩, nI_1]; simp
      · rw [gO_sI, gO_sO, getElem?_snoc]
        by_cases ci : i = xs.length
        · rw [if_pos ⟨rfl, ci⟩, if_pos ci]
        · rw [if_neg (fun z => ci z.2), if_neg ci]; exact h9.2.2.2 i
    · exact (s1.wO (fun _ => by rw [h9.2.2.1]; exact List.mem_singleton.mpr rfl)).wI (fun _ => by rw [h7]; exact List.mem_singleton.mpr rfl)
    · subst hG1; exact Cs.rf
  · have hob1 := hG.ob hx1
    refine c_AL_grow w1 a1 a2 (by rw [a3, heq]) a4 (by omega) hob1 (fun G2 g => ?_)
    have hla := g.la hG w1 heq (by omega)
    obtain ⟨b1, b2, b3, b4, b5, b6, b7, b8⟩ := hla
    have h9 : gT G2 (gz G1) = 23 ∧ 2 ≤ capN c ∧ uo o (gz G1) l (gz G1) = l ∧ ∀ i, gO G2 (gz G1) i = xs[i]? := by
      rcases b8 with b8 | b8
      · have : capN c = if c = 0 then 10 else c + c / 2 := rfl
        have := capN_cost (c := c) (by omega)
        omega
      · exact b8
    have hcc := capN_cost (c := c) (by rcases a8 with a8 | a8 <;> omega)
    have s2 : Stq [l] G o G2 (uo o (gz G1) l) := s1.tr (g.2.2.2.2.2.2.2.2 [l] o (Nat.le_refl _) w1 (by rw [h7]; exact List.mem_singleton.mpr rfl))
    have hbz := w1 b hb1.ne
    have hb2 : OB G2 b := hb1.eqT (s2.tg (by omega) |>.trans (by rw [← hG1]; rfl))
    refine wp_AL_add3_10 l b (nI xs.length) (gz G1) ⟨h9.1, xs.length, IX.nI (by omega) (by omega), hb2, b1, wp_AL_add_23 (k _ (uo o (gz G1) l) (capN c) ⟨gz G1, ?_⟩ ?_ ?_)⟩
    · refine ⟨b1, b2, ?_, b4, by simp; omega, b6, b7, Or.inr ⟨h9.1, h9.2.1, h9.2.2.1, fun i => ?_⟩⟩
      · rw [gI_sI, if_pos ⟨rfl, rfl⟩, nI_1]; simp
      · rw [gO_sI, gO_sO, getElem?_snoc]
        by_cases ci : i = xs.length
        · rw [if_pos ⟨rfl, ci⟩, if_pos ci]
        · rw [if_neg (fun z => ci z.2), if_neg ci]; exact h9.2.2.2 i
    · exact (s2.wO (fun c => absurd c (by omega))).wI (fun _ => by rw [h7]; exact List.mem_singleton.mpr rfl)
    · have := (g.cs (by rcases a8 with a8 | a8 <;> omega))
      subst hG1
      exact this
