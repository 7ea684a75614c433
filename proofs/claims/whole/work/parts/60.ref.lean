/-! the reference: its object m, its rows B; int fields F, rows T, by the fields' places -/
def aK (k : Nat) : Bool := (9 ≤ k && k ≤ 17) || (21 ≤ k && k ≤ 28) || k == 30 || k == 32 || (34 ≤ k && k ≤ 39) || (45 ≤ k && k ≤ 50) || (52 ≤ k && k ≤ 54)
def aG (k : Nat) : Nat := if k = 16 ∨ k = 22 ∨ k = 28 ∨ k = 39 ∨ k = 50 then 21 else 20
def aN (k : Nat) : Nat := if k ≤ 11 then 120 else if k ≤ 22 then 3 else if k ≤ 28 then 1000 else if k ≤ 30 then 200 else if k ≤ 32 then 80 else if k ≤ 39 then 4000 else if k ≤ 50 then 1000 else 3
def InjB (m : Nat) (B : Nat → Nat) : Prop := (∀ i j, aK i = true → aK j = true → B i = B j → i = j) ∧ ∀ i, aK i = true → B i ≠ m
def MoR (G : GH) (m : Nat) (B : Nat → Nat) : Prop := gT G m = 11 ∧ ∀ k, aK k = true → gR G (640 + k) m = some (B k) ∧ gT G (B k) = aG k ∧ gN G (B k) = aN k
def MoS (G : GH) (m : Nat) (B : Nat → Nat) (F : Nat → Int32) (T : Nat → Nat → Int32) : Prop := MoR G m B ∧ (∀ k, k < 58 → aK k = false → gI G (640 + k) m = F k) ∧ ∀ k, aK k = true → ∀ i, gA G (B k) i = T k i
/-- only the reference's cells differ -/
def MSt (G : GH) (m : Nat) (B : Nat → Nat) (G' : GH) : Prop := gz G' = gz G ∧ gs G' = gs G ∧ (∀ q, gT G' q = gT G q) ∧ (∀ q, gN G' q = gN G q) ∧ (∀ f q, gR G' f q = gR G f q) ∧ ∀ q, q ≠ m → (∀ k, aK k = true → q ≠ B k) → Sm G G' q
section REF
variable {E : EV} {G G1 G2 : GH} {m : Nat} {B : Nat → Nat} {F : Nat → Int32} {T : Nat → Nat → Int32}
theorem MSt.rf : MSt G m B G := ⟨rfl, rfl, fun _ => rfl, fun _ => rfl, fun _ _ => rfl, fun _ _ _ => Sm.rf⟩
theorem MSt.tr (h : MSt G m B G1) (h' : MSt G1 m B G2) : MSt G m B G2 := ⟨h'.1.trans h.1, h'.2.1.trans h.2.1, fun q => (h'.2.2.1 q).trans (h.2.2.1 q), fun q => (h'.2.2.2.1 q).trans (h.2.2.2.1 q), fun f q => (h'.2.2.2.2.1 f q).trans (h.2.2.2.2.1 f q), fun q h1 h2 => (h.2.2.2.2.2 q h1 h2).tr (h'.2.2.2.2.2 q h1 h2)⟩
theorem MSt.wI (h : MSt G m B G1) {f : Nat} {v : Int32} : MSt G m B (sI G1 f m v) := ⟨h.1, h.2.1, h.2.2.1, h.2.2.2.1, h.2.2.2.2.1, fun q h1 h2 => (h.2.2.2.2.2 q h1 h2).tr (sI_sm h1)⟩
theorem MSt.wA (h : MSt G m B G1) {k i : Nat} {v : Int32} (hk : aK k = true) : MSt G m B (sA G1 (B k) i v) := ⟨h.1, h.2.1, h.2.2.1, h.2.2.2.1, h.2.2.2.2.1, fun q h1 h2 => (h.2.2.2.2.2 q h1 h2).tr (sA_sm (h2 k hk))⟩
theorem MoS.tg (h : MoS G m B F T) : gT G m = 11 := h.1.1
theorem MoS.rf (h : MoS G m B F T) (k : Nat) (hk : aK k = true) : gR G (640 + k) m = some (B k) := (h.1.2 k hk).1
theorem MoS.at' (h : MoS G m B F T) (k : Nat) (hk : aK k = true) : gT G (B k) = aG k := (h.1.2 k hk).2.1
theorem MoS.ln (h : MoS G m B F T) (k : Nat) (hk : aK k = true) : gN G (B k) = aN k := (h.1.2 k hk).2.2
theorem MoS.int (h : MoS G m B F T) (k : Nat) (hk : k < 58) (hk' : aK k = false) : gI G (640 + k) m = F k := h.2.1 k hk hk'
theorem MoS.rd (h : MoS G m B F T) (k : Nat) (hk : aK k = true) (i : Nat) : gA G (B k) i = T k i := h.2.2 k hk i
theorem MoS.wI (h : MoS G m B F T) (k : Nat) (v : Int32) : MoS (sI G (640 + k) m v) m B (up1 F k v) T := by
  refine ⟨h.1, fun j hj hj' => ?_, h.2.2⟩
  show gI (sI G (640 + k) m v) (640 + j) m = if j = k then v else F j
  by_cases c : j = k
  · rw [if_pos c, c, gI_eq]
  · rw [if_neg c, gI_ne (by omega)]; exact h.2.1 j hj hj'
theorem MoS.wA (hB : InjB m B) (h : MoS G m B F T) (k i : Nat) (v : Int32) (hk : aK k = true) : MoS (sA G (B k) i v) m B F (up2 T k i v) := by
  refine ⟨h.1, h.2.1, fun j hj n => ?_⟩
  show gA (sA G (B k) i v) (B j) n = if j = k ∧ n = i then v else T j n
  rw [gA_sA]
  by_cases c : j = k
  · by_cases c2 : n = i
    · rw [if_pos ⟨by rw [c], c2⟩, if_pos ⟨c, c2⟩]
    · rw [if_neg (fun z => c2 z.2), if_neg (fun z => c2 z.2)]; exact h.2.2 j hj n
  · rw [if_neg (fun z => c (hB.1 j k hj hk z.1)), if_neg (fun z => c z.1)]; exact h.2.2 j hj n
theorem MoS.ix (h : MoS G m B F T) (k : Nat) (hk : aK k = true) {n : Nat} (hn : n < aN k) : IX (nI n) n (gN G (B k)) := by
  rw [h.ln k hk]
  refine IX.nI hn ?_
  unfold aN
  split <;> (try omega)
  split <;> (try omega)
  split <;> (try omega)
  split <;> (try omega)
  split <;> (try omega)
  split <;> (try omega)
  split <;> omega
theorem u2 {T : Nat → Nat → Int32} {k i : Nat} {v : Int32} : up2 T k i v k i = v := if_pos ⟨rfl, rfl⟩
theorem u2n {T : Nat → Nat → Int32} {k i j : Nat} {v : Int32} (h : j ≠ i) : up2 T k i v k j = T k j := if_neg (fun z => h z.2)
end REF
/-! what the numbers mean -/
def aJ (F : Nat → Int32) (jb : Nat → Int32) : Prop := F 1 = jb 0 ∧ F 2 = jb 1 ∧ F 3 = jb 2 ∧ F 4 = jb 3 ∧ F 5 = jb 4 ∧ F 6 = jb 5
def aT (F : Nat → Int32) (t : TP) : Prop := F 7 = tW t ∧ F 8 = tB t ∧ F 43 = tS t ∧ F 44 = tU t
def aS (T : Nat → Nat → Int32) (sc : SC) : Prop := ∀ s, s < 3 → T 12 s = nI (sEv sc s).length ∧ (sEv sc s).length ≤ 40 ∧ T 15 s = sSl sc s ∧ T 16 s = sId sc s ∧ ∀ i v, (sEv sc s)[i]? = some v → T 9 (40 * s + i) = v.1 ∧ T 10 (40 * s + i) = v.2.1 ∧ T 11 (40 * s + i) = v.2.2
def aP (T : Nat → Nat → Int32) (a b c : Nat) (P : PG) : Prop := ∀ s, s < 3 → T a s = nI (gOf P s) ∧ T b s = nI (gTk P s) ∧ T c s = gGr P s
def aW (n : Int32) (T : Nat → Nat → Int32) (k : Nat) (W : List WT) : Prop := n = nI W.length ∧ W.length ≤ 990 ∧ ∀ i w, W[i]? = some w → T k i = wK w ∧ T (k + 1) i = wS w ∧ T (k + 2) i = wE w ∧ T (k + 3) i = wC w ∧ T (k + 4) i = wM w ∧ T (k + 5) i = wO w ∧ (wO w = 0 ∨ wO w = 1)
def aL (n : Int32) (T : Nat → Nat → Int32) (L : List WT) : Prop := n = nI L.length ∧ L.length ≤ 3900 ∧ ∀ i w, L[i]? = some w → T 34 i = wK w ∧ T 35 i = wS w ∧ T 36 i = wE w ∧ T 37 i = wC w ∧ T 38 i = wM w ∧ T 39 i = (if wO w = 0 then 1 else 0)
def aJn (n : Int32) (T : Nat → Nat → Int32) (J : List Nat) : Prop := n = nI J.length ∧ J.length ≤ 80 ∧ ∀ i j, J[i]? = some j → T 32 i = nI j ∧ j < 80
def aB (F : Nat → Int32) (T : Nat → Nat → Int32) (b : BS) : Prop := F 20 = bU b ∧ ∀ s, s < 3 → T 21 s = nI (bA b s) ∧ T 22 s = bT b s
def AB (F : Nat → Int32) (T : Nat → Nat → Int32) (th : Int32) (y : XS) (J : List Nat) (JK : Nat) : Prop :=
  F 0 = th ∧ aJ F (cJ y) ∧ aT F (cT y) ∧ aS T (cS y) ∧ aP T 13 14 17 (cN y) ∧ F 18 = gMk (cN y) ∧ F 19 = gDr (cN y) ∧ aW (F 29) T 23 (gWi (cN y)) ∧ aJn (F 33) T J ∧ aP T 52 53 54 (cP y) ∧ F 55 = gMk (cP y) ∧ F 56 = gDr (cP y) ∧ aW (F 51) T 45 (gWi (cP y)) ∧ F 57 = nI JK ∧ aL (F 40) T (kL (cK y)) ∧ F 41 = nI (kP (cK y)) ∧ F 42 = nI (kC (cK y)) ∧ aB F T (cB y)
def MS (G : GH) (m : Nat) (B : Nat → Nat) (th : Int32) (y : XS) (J : List Nat) (JK : Nat) : Prop := ∃ F T, MoS G m B F T ∧ AB F T th y J JK
def setLk (y : XS) (L : List WT) : XS := (cJ y, cS y, cN y, cP y, cH y, (L, kC (cK y), kP (cK y)), cB y, cT y)
def setWn (y : XS) (W : List WT) : XS := (cJ y, cS y, (gOf (cN y), gTk (cN y), gGr (cN y), gMk (cN y), gHl (cN y), gDr (cN y), gPa (cN y), W), cP y, cH y, cK y, cB y, cT y)
section REF2
variable {E : EV} {G : GH} {Post : Res → GH → Prop} {m : Nat} {B : Nat → Nat} {F : Nat → Int32} {T : Nat → Nat → Int32} {th : Int32} {y : XS} {J : List Nat} {JK : Nat}
/-- something is written to the sink -/
theorem c_sends {i : Nat} {w : WT} {b : Int32} (hB : InjB m B) (h : MoS G m B F T) (ha : AB F T th y J JK) (hi : i < 1000) (hw : T 23 i = wK w ∧ T 24 i = wS w ∧ T 25 i = wE w ∧ T 26 i = wC w ∧ T 27 i = wM w) (hb : b = 0 ∨ b = 1) (hL : (kL (cK y)).length < 3900)
    (k : ∀ G' F' T', MoS G' m B F' T' → MSt G m B G' → AB F' T' th (setLk y (kL (cK y) ++ [setO w (if b = 0 then 1 else 0)])) J JK → (∀ j, j < 34 → T' j = T j) → (∀ j, j ≠ 40 → F' j = F j) → Post (.inl none) G') : Cl E 1 m_Mo_sends [.ref m, .int (nI i), .int b] G Post := by
  obtain ⟨n0, n1, n2⟩ := ha.2.2.2.2.2.2.2.2.2.2.2.2.2.2.1
  have er : gI G 680 m = nI (kL (cK y)).length := (h.int 40 (by decide) (by decide)).trans n0
  have ix : ∀ j, 23 ≤ j → j ≤ 28 → IX (nI i) i (gN G (B j)) := fun j h1 h2 => h.ix j (by unfold aK; simp; omega) (by unfold aN; rw [if_neg (by omega), if_neg (by omega), if_pos (by omega)]; exact hi)
  have ir : ∀ j, 34 ≤ j → j ≤ 39 → IX (nI (kL (cK y)).length) (kL (cK y)).length (gN G (B j)) := fun j h1 h2 => h.ix j (by unfold aK; simp; omega) (by unfold aN; rw [if_neg (by omega), if_neg (by omega), if_neg (by omega), if_neg (by omega), if_neg (by omega), if_pos (by omega)]; omega)
  generalize hn : (kL (cK y)).length = n at *
  have h1 := h.wA hB 34 n (T 23 i) rfl
  have h2 := h1.wA hB 35 n (T 24 i) rfl
  have h3 := h2.wA hB 36 n (T 25 i) rfl
  have h4 := h3.wA hB 37 n (T 26 i) rfl
  have h5 := h4.wA hB 38 n (T 27 i) rfl
  have h6 := h5.wA hB 39 n b rfl
  have h7 := h6.wI 40 (nI n + 1)
  refine j_enter (L := [some (.ref m), some (.int (nI i)), some (.int b)]) me_Mo_sends (cat_c rfl (cat_c rfl (cat_c rfl cat_n))) (Nat.le_of_ble_eq_true rfl) rfl (wp_Mo_sends_0 m (nI i) b ?_)
  rw [er]
  refine ⟨h.tg, B 34, h.rf 34 rfl, B 23, h.rf 23 rfl, Or.inl (h.at' 23 rfl), i, ix 23 (by decide) (by decide), h.at' 34 rfl, n, ir 34 (by decide) (by decide), B 35, h.rf 35 rfl, B 24, h.rf 24 rfl, Or.inl (h.at' 24 rfl), i, ix 24 (by decide) (by decide), h.at' 35 rfl, n, ir 35 (by decide) (by decide), B 36, h.rf 36 rfl, B 25, h.rf 25 rfl, Or.inl (h.at' 25 rfl), i, ix 25 (by decide) (by decide), h.at' 36 rfl, n, ir 36 (by decide) (by decide), fun G32 hG32 => ?_⟩
  have e3 : G32 = sA (sA (sA G (B 34) n (T 23 i)) (B 35) n (T 24 i)) (B 36) n (T 25 i) := by
    rw [hG32, h.rd 23 rfl, show gA (sA G (B 34) n (T 23 i)) (B 24) i = T 24 i from h1.rd 24 rfl i, show gA (sA (sA G (B 34) n (T 23 i)) (B 35) n (T 24 i)) (B 25) i = T 25 i from h2.rd 25 rfl i]
  subst e3
  refine ⟨B 37, h.rf 37 rfl, B 26, h.rf 26 rfl, Or.inl (h.at' 26 rfl), i, ix 26 (by decide) (by decide), h.at' 37 rfl, n, ir 37 (by decide) (by decide), B 38, h.rf 38 rfl, B 27, h.rf 27 rfl, Or.inl (h.at' 27 rfl), i, ix 27 (by decide) (by decide), h.at' 38 rfl, n, ir 38 (by decide) (by decide), B 39, h.rf 39 rfl, h.at' 39 rfl, n, ir 39 (by decide) (by decide), hb, fun G60 hG60 => ?_⟩
  rw [show gA (sA (sA (sA G (B 34) n (T 23 i)) (B 35) n (T 24 i)) (B 36) n (T 25 i)) (B 26) i = T 26 i from h3.rd 26 rfl i, show gA (sA (sA (sA (sA G (B 34) n (T 23 i)) (B 35) n (T 24 i)) (B 36) n (T 25 i)) (B 37) n (T 26 i)) (B 27) i = T 27 i from h4.rd 27 rfl i] at hG60
  subst hG60
  refine k _ _ _ h7 ((((((MSt.rf.wA rfl).wA rfl).wA rfl).wA rfl).wA rfl).wA rfl).wI ?_ (fun j hj => ?_) (fun j hj => if_neg hj)
  · obtain ⟨x1, x2, x3, x4, x5, x6, x7, x8, x9, x10, x11, x12, x13, x14, x15, x16, x17, x18⟩ := ha
    refine ⟨x1, x2, x3, x4, x5, x6, x7, x8, x9, x10, x11, x12, x13, x14, ⟨?_, ?_, fun j v hv => ?_⟩, x16, x17, x18⟩
    · show nI n + 1 = nI (kL (cK y) ++ [_]).length
      rw [nI_1, List.length_append, hn]; rfl
    · show (kL (cK y) ++ [_]).length ≤ 3900
      rw [List.length_append, hn]; exact hL
    · have hv : (kL (cK y) ++ [setO w (if b = 0 then 1 else 0)])[j]? = some v := hv
      rw [getElem?_snoc', hn] at hv
      by_cases c : j = n
      · rw [if_pos c] at hv
        cases hv
        rw [c]
        refine ⟨u2.trans hw.1, u2.trans hw.2.1, u2.trans hw.2.2.1, u2.trans hw.2.2.2.1, u2.trans hw.2.2.2.2, u2.trans ?_⟩
        show b = if (if b = 0 then (1 : Int32) else 0) = 0 then 1 else 0
        rcases hb with e | e <;> subst e <;> decide +kernel
      · rw [if_neg c] at hv
        obtain ⟨q1, q2, q3, q4, q5, q6⟩ := n2 j v hv
        exact ⟨(u2n c).trans q1, (u2n c).trans q2, (u2n c).trans q3, (u2n c).trans q4, (u2n c).trans q5, (u2n c).trans q6⟩
  · funext q
    show up2 (up2 (up2 (up2 (up2 (up2 T 34 n _) 35 n _) 36 n _) 37 n _) 38 n _) 39 n b j q = T j q
    unfold up2
    rw [if_neg (by omega), if_neg (by omega), if_neg (by omega), if_neg (by omega), if_neg (by omega), if_neg (by omega)]
end REF2
