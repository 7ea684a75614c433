/-! p25, the pure part: numbers; what a recomputation answers -/
section P25A
theorem i32_mul {a b : Int32} (h1 : -2147483648 ≤ a.toInt * b.toInt) (h2 : a.toInt * b.toInt < 2147483648) : (a * b).toInt = a.toInt * b.toInt := by
  rw [Int32.toInt_mul]
  exact Int.bmod_eq_of_le (by omega) (by omega)
theorem bv_nn {c : BitVec 32} (h : 0 ≤ c.toInt) : c.toInt = (c.toNat : Int) := by
  have e := BitVec.toInt_eq_toNat_cond c
  have l := c.isLt
  by_cases d : 2 * c.toNat < 2 ^ 32
  · rw [if_pos d] at e; exact e
  · rw [if_neg d] at e; omega
theorem and_nn {a c : Int32} (hc : 0 ≤ c.toInt) : 0 ≤ (a &&& c).toInt ∧ (a &&& c).toInt ≤ c.toInt := by
  have ec : c.toInt = (c.toBitVec.toNat : Int) := bv_nn hc
  have lc : c.toInt < 2147483648 := c.toInt_lt
  have n1 : (a.toBitVec &&& c.toBitVec).toNat = a.toBitVec.toNat &&& c.toBitVec.toNat := BitVec.toNat_and _ _
  have n2 : a.toBitVec.toNat &&& c.toBitVec.toNat ≤ c.toBitVec.toNat := Nat.and_le_right
  have e : (a &&& c).toInt = (((a.toBitVec &&& c.toBitVec).toNat : Nat) : Int) := by
    show (a.toBitVec &&& c.toBitVec).toInt = _
    exact BitVec.toInt_eq_toNat_of_lt (by omega)
  rw [e]
  omega
theorem shr_nn {a b : Int32} (ha : 0 ≤ a.toInt) : 0 ≤ (a >>> b).toInt ∧ (a >>> b).toInt ≤ a.toInt := by
  have e : (a >>> b).toInt = a.toInt / ((2 ^ (BitVec.smod b.toBitVec 32).toNat : Nat) : Int) := by
    show (a >>> b).toBitVec.toInt = _
    rw [Int32.toBitVec_shiftRight, BitVec.sshiftRight_eq', BitVec.toInt_sshiftRight, Int.shiftRight_eq_div_pow]
    rfl
  rw [e]
  exact ⟨Int.ediv_nonneg ha (Int.natCast_nonneg _), Int.ediv_le_self _ ha⟩
theorem dv_int {a m : Int32} (ha : 0 ≤ a.toInt) (hm : 0 < m.toInt) : (a / m).toInt = a.toInt / m.toInt := by
  have la : a.toInt < 2147483648 := a.toInt_lt
  have q0 : 0 ≤ a.toInt / m.toInt := Int.ediv_nonneg ha (by omega)
  have q2 : a.toInt / m.toInt ≤ a.toInt := Int.ediv_le_self _ ha
  rw [Int32.toInt_div, Int.tdiv_eq_ediv_of_nonneg ha]
  exact Int.bmod_eq_of_le (by omega) (by omega)
theorem rm_int {a m : Int32} (ha : 0 ≤ a.toInt) (hm : 0 < m.toInt) : (a - a / m * m).toInt = a.toInt % m.toInt ∧ 0 ≤ (a - a / m * m).toInt ∧ (a - a / m * m).toInt < m.toInt := by
  have la : a.toInt < 2147483648 := a.toInt_lt
  have q0 : 0 ≤ a.toInt / m.toInt := Int.ediv_nonneg ha (by omega)
  have q1 : a.toInt / m.toInt * m.toInt ≤ a.toInt := Int.ediv_mul_le _ (by omega)
  have q3 : 0 ≤ a.toInt / m.toInt * m.toInt := Int.mul_nonneg q0 (by omega)
  have e : (a / m * m).toInt = a.toInt / m.toInt * m.toInt := by
    rw [i32_mul (by rw [dv_int ha hm]; omega) (by rw [dv_int ha hm]; omega), dv_int ha hm]
  have r1 := Int.ediv_mul_add_emod a.toInt m.toInt
  have r2 := Int.emod_nonneg a.toInt (b := m.toInt) (by omega)
  have r3 := Int.emod_lt_of_pos a.toInt hm
  have e2 : (a - a / m * m).toInt = a.toInt % m.toInt := by
    rw [i32_sub (by rw [e]; omega) (by rw [e]; omega), e]
    omega
  rw [e2]
  exact ⟨rfl, r2, r3⟩
/-- a number that is known by its size -/
theorem nI_ex {a : Int32} {n : Nat} (h0 : 0 ≤ a.toInt) (h1 : a.toInt < n) (hn : n ≤ 100000) : ∃ k, k < n ∧ a = nI k :=
  ⟨a.toInt.toNat, by omega, Int32.toInt_inj.mp (by rw [nI_toInt (by omega)]; omega)⟩
/-- values between -1000 and 1000 -/
def HVal (H : List ET) : Prop := ∀ e ∈ H, -1000 ≤ (eV e).toInt ∧ (eV e).toInt ≤ 1000
theorem gat_bd {kd sz gr key en : Int32} : ∀ (H : List ET) (w : WT) (n : Nat), HVal H → n + H.length ≤ 2000 → wC w = nI n → -1000 * (n : Int) ≤ (wM w).toInt → (wM w).toInt ≤ 1000 * (n : Int) → ∃ m : Nat, m ≤ n + H.length ∧ wC (gat kd sz gr key en w H) = nI m ∧ -1000 * (m : Int) ≤ (wM (gat kd sz gr key en w H)).toInt ∧ (wM (gat kd sz gr key en w H)).toInt ≤ 1000 * (m : Int)
  | [], _, n, _, _, h1, h2, h3 => ⟨n, Nat.le_refl _, h1, h2, h3⟩
  | e :: L, w, n, hv, hl, h1, h2, h3 => by
    have hl' : n + (L.length + 1) ≤ 2000 := hl
    have v1 := hv e (by simp)
    have hv' : HVal L := fun z hz => hv z (by simp [hz])
    have sum : (wM w + eV e).toInt = (wM w).toInt + (eV e).toInt := i32_add (by omega) (by omega)
    have ex : ∀ w' : WT, (w' = w ∨ w' = addV w (eV e)) → ∃ m : Nat, m ≤ n + (L.length + 1) ∧ wC (gat kd sz gr key en w' L) = nI m ∧ -1000 * (m : Int) ≤ (wM (gat kd sz gr key en w' L)).toInt ∧ (wM (gat kd sz gr key en w' L)).toInt ≤ 1000 * (m : Int) := by
      intro w' hw
      rcases hw with hw | hw <;> subst hw
      · obtain ⟨m, a, b⟩ := gat_bd (kd := kd) (sz := sz) (gr := gr) (key := key) (en := en) L w' n hv' (by omega) h1 h2 h3
        exact ⟨m, by omega, b⟩
      · obtain ⟨m, a, b⟩ := gat_bd (kd := kd) (sz := sz) (gr := gr) (key := key) (en := en) L (addV w (eV e)) (n + 1) hv' (by omega) (by show wC w + 1 = _; rw [h1, nI_1]) (by show _ ≤ (wM w + eV e).toInt; omega) (by show (wM w + eV e).toInt ≤ _; omega)
        exact ⟨m, by omega, b⟩
    unfold gat
    refine ex _ ?_
    repeat' split
    all_goals first | exact Or.inl rfl | exact Or.inr rfl
/-- of windows that merge, the count is that of the events inside -/
theorem gat_ct {jb : Nat → Int32} (hk : jb 0 = 2) {q en : Int32} : ∀ (H : List ET) (w : WT), wC (gat (jb 0) (jb 1) (jb 3) q en w H) = wC w + nI (H.filter (fun e => decide (adG jb q e ∧ ¬ eT e < wS w ∧ ¬ wE w ≤ eT e))).length
  | [], w => (Int32.add_zero (wC w)).symm
  | e :: L, w => by
    unfold gat
    by_cases a : adG jb q e
    · rw [if_pos ((adm_G hk).mpr a)]
      by_cases c1 : eT e < wS w
      · rw [if_pos c1, gat_ct hk L w, List.filter_cons_of_neg (by rw [decide_eq_true_eq]; exact fun z => z.2.1 c1)]
      · rw [if_neg c1]
        by_cases c2 : wE w ≤ eT e
        · rw [if_pos c2, gat_ct hk L w, List.filter_cons_of_neg (by rw [decide_eq_true_eq]; exact fun z => z.2.2 c2)]
        · rw [if_neg c2, gat_ct hk L (addV w (eV e)), List.filter_cons_of_pos (by rw [decide_eq_true_eq]; exact ⟨a, c1, c2⟩), List.length_cons]
          show wC w + 1 + nI (L.filter (fun e => decide (adG jb q e ∧ ¬ eT e < wS w ∧ ¬ wE w ≤ eT e))).length = _
          rw [← nI_1, Int32.add_assoc, Int32.add_comm 1]
    · rw [if_neg (fun z => a ((adm_G hk).mp z)), gat_ct hk L w, List.filter_cons_of_neg (by rw [decide_eq_true_eq]; exact fun z => a z.1)]
/-- so many pieces of that length cover no more -/
theorem cover_len {sz : Int} (hz : 0 ≤ sz) : ∀ (n : Nat) (T : List Int) (a b : Int), T.length ≤ n → (∀ z, a ≤ z → z < b → ∃ t ∈ T, t ≤ z ∧ z < t + sz) → b - a ≤ sz * (T.length : Int)
  | 0, T, a, b, hn, h => by
    have e : T = [] := List.length_eq_zero_iff.mp (by omega)
    subst e
    by_cases c : a < b
    · obtain ⟨t, ht, -⟩ := h a (Int.le_refl _) c
      exact absurd ht (by simp)
    · show b - a ≤ sz * 0
      omega
  | n + 1, T, a, b, hn, h => by
    have nn : 0 ≤ sz * (T.length : Int) := Int.mul_nonneg hz (Int.natCast_nonneg _)
    by_cases c : a < b
    · obtain ⟨t, ht, h1, h2⟩ := h (b - 1) (by omega) (by omega)
      have hp : 0 < T.length := List.length_pos_of_mem ht
      have hl : (T.erase t).length = T.length - 1 := List.length_erase_of_mem ht
      have ih := cover_len hz n (T.erase t) a t (by omega) (fun z z1 z2 => by
        obtain ⟨t', g1, g2, g3⟩ := h z z1 (by omega)
        exact ⟨t', (List.mem_erase_of_ne (by omega)).mpr g1, g2, g3⟩)
      have e : ((T.erase t).length : Int) = (T.length : Int) - 1 := by omega
      rw [e, Int.mul_sub, Int.mul_one] at ih
      omega
    · omega
def Cov (jb : Nat → Int32) (q s : Int32) (H : List ET) (f : Int32) : Prop := ∀ z : Int, s.toInt ≤ z → z < f.toInt → ∃ e ∈ H, adG jb q e ∧ s.toInt ≤ (eT e).toInt ∧ (eT e).toInt ≤ z ∧ z < (eT e).toInt + (jb 1).toInt
theorem fur_cov {jb : Nat → Int32} (hk : jb 0 = 2) {q s : Int32} {H : List ET} (hz : ∀ e ∈ H, (eT e + jb 1).toInt = (eT e).toInt + (jb 1).toInt) : ∀ (L : List ET) (f : Int32), (∀ e ∈ L, e ∈ H) → Cov jb q s H f → Cov jb q s H (fur (jb 0) (jb 1) (jb 3) q s f L) ∧ f.toInt ≤ (fur (jb 0) (jb 1) (jb 3) q s f L).toInt
  | [], f, _, h => ⟨h, Int.le_refl _⟩
  | e :: L, f, hL, h => by
    have he := hL e (by simp)
    have ex : ∀ g : Int32, Cov jb q s H g → f.toInt ≤ g.toInt → Cov jb q s H (fur (jb 0) (jb 1) (jb 3) q s g L) ∧ f.toInt ≤ (fur (jb 0) (jb 1) (jb 3) q s g L).toInt := fun g g1 g2 => by
      obtain ⟨i1, i2⟩ := fur_cov hk hz L g (fun z hz => hL z (by simp [hz])) g1
      exact ⟨i1, by omega⟩
    unfold fur
    by_cases a : adG jb q e
    · rw [if_pos ((adm_G hk).mpr a)]
      by_cases c1 : eT e < s
      · rw [if_pos c1]; exact ex f h (Int.le_refl _)
      · rw [if_neg c1]
        by_cases c2 : f ≤ eT e
        · rw [if_pos c2]; exact ex f h (Int.le_refl _)
        · rw [if_neg c2]
          by_cases c3 : f < eT e + jb 1
          · rw [if_pos c3]
            have d1 := i32_nlt c1
            have d2 := i32_nle c2
            have d3 := i32_lt c3
            rw [hz e he] at d3
            refine ex _ (fun z z1 z2 => ?_) (by rw [hz e he]; omega)
            rw [hz e he] at z2
            by_cases c4 : z < f.toInt
            · exact h z z1 c4
            · exact ⟨e, he, a, d1, by omega, z2⟩
          · rw [if_neg c3]; exact ex f h (Int.le_refl _)
    · rw [if_neg (fun z => a ((adm_G hk).mp z))]
      exact ex f h (Int.le_refl _)
theorem ebg2_cov {jb : Nat → Int32} (hk : jb 0 = 2) {q s : Int32} {H : List ET} (hz : ∀ e ∈ H, (eT e + jb 1).toInt = (eT e).toInt + (jb 1).toInt) : ∀ (n : Nat) (f : Int32), Cov jb q s H f → Cov jb q s H (ebg2 (jb 0) (jb 1) (jb 3) q s H n f) ∧ f.toInt ≤ (ebg2 (jb 0) (jb 1) (jb 3) q s H n f).toInt
  | 0, f, h => ⟨h, Int.le_refl _⟩
  | n + 1, f, h => by
    unfold ebg2
    by_cases c : fur (jb 0) (jb 1) (jb 3) q s f H = f
    · rw [if_pos c]; exact ⟨h, Int.le_refl _⟩
    · rw [if_neg c]
      obtain ⟨i1, i2⟩ := fur_cov hk hz H f (fun _ z => z) h
      obtain ⟨j1, j2⟩ := ebg2_cov hk hz n _ i1
      exact ⟨j1, by omega⟩
theorem endG_cov {jb : Nat → Int32} (hk : jb 0 = 2) {q s : Int32} {H : List ET} (hz : ∀ e ∈ H, (eT e + jb 1).toInt = (eT e).toInt + (jb 1).toInt) (hs : (s + jb 1).toInt = s.toInt + (jb 1).toInt) (cl : Nat) : endG (jb 0) (jb 1) (jb 3) q s H cl = -1 ∨ (Cov jb q s H (endG (jb 0) (jb 1) (jb 3) q s H cl) ∧ s.toInt + (jb 1).toInt ≤ (endG (jb 0) (jb 1) (jb 3) q s H cl).toInt) := by
  obtain ⟨b1, b2⟩ := ebg1_spec hk (q := q) (s := s) H 0 (Or.inl rfl)
  unfold endG
  by_cases hb : ∃ e ∈ H, badE jb q s e
  · rw [b1 hb]; exact Or.inl rfl
  · obtain ⟨f', e1, e2⟩ := b2 (fun e he z => hb ⟨e, he, z⟩)
    rw [e1]
    show (if f' = 0 then -1 else ebg2 (jb 0) (jb 1) (jb 3) q s H cl (s + jb 1)) = -1 ∨ (Cov jb q s H (if f' = 0 then -1 else ebg2 (jb 0) (jb 1) (jb 3) q s H cl (s + jb 1)) ∧ s.toInt + (jb 1).toInt ≤ (if f' = 0 then (-1 : Int32) else ebg2 (jb 0) (jb 1) (jb 3) q s H cl (s + jb 1)).toInt)
    by_cases c : f' = 0
    · rw [if_pos c]; exact Or.inl rfl
    · rw [if_neg c]
      have ex : ∃ e ∈ H, adG jb q e ∧ eT e = s := by
        by_cases d : ∃ e ∈ H, adG jb q e ∧ eT e = s
        · exact d
        · exact absurd (e2.mpr ⟨rfl, fun e he ha hes => d ⟨e, he, ha, hes⟩⟩) c
      obtain ⟨e, he, ha, hes⟩ := ex
      obtain ⟨j1, j2⟩ := ebg2_cov hk hz cl (s + jb 1) (fun z z1 z2 => ⟨e, he, ha, by rw [hes]; exact Int.le_refl _, by rw [hes]; exact z1, by rw [hes]; omega⟩)
      exact Or.inr ⟨j1, by omega⟩
/-- what a recomputation answers of a key and a beginning -/
theorem anw_facts {jb : Nat → Int32} {H : List ET} {cl : Nat} {cw q s : Int32} (hj : JOK jb) (hH : HNum H) (hv : HVal H) (hl : H.length ≤ 120) (s0 : 0 ≤ s.toInt) (s1 : s.toInt ≤ 999) : (∀ w, anw jb H cl cw q s w = -1000000) ∨ ∃ n : Nat, 1 ≤ n ∧ n ≤ 120 ∧ anw jb H cl cw q s 0 = nI n ∧ (-1000 * (n : Int) ≤ (anw jb H cl cw q s 1).toInt ∧ (anw jb H cl cw q s 1).toInt ≤ 1000 * (n : Int)) ∧ (¬ jb 0 = 2 → anw jb H cl cw q s 2 = s + jb 1) ∧ (jb 0 = 2 → s.toInt + (jb 1).toInt ≤ (anw jb H cl cw q s 2).toInt ∧ (anw jb H cl cw q s 2).toInt ≤ s.toInt + (jb 1).toInt * (n : Int)) := by
  have hp := hj.2.1
  have hz : ∀ e ∈ H, (eT e + jb 1).toInt = (eT e).toInt + (jb 1).toInt := fun e he => by
    have := (hH e he).1
    exact i32_add (by omega) (by omega)
  have hs : (s + jb 1).toInt = s.toInt + (jb 1).toInt := i32_add (by omega) (by omega)
  unfold anw
  by_cases h1 : endA jb H q s cl = -1
  · left; intro w; rw [if_pos h1]
  by_cases h2' : ¬ endA jb H q s cl ≤ cw
  · left; intro w; rw [if_neg h1, if_neg h2']
  have h2 := Classical.byContradiction h2'
  have eA : ∀ w, (if endA jb H q s cl = -1 then (-1000000 : Int32) else if endA jb H q s cl ≤ cw then anwG jb H q s w (endA jb H q s cl) else -1000000) = anwG jb H q s w (endA jb H q s cl) := fun w => by rw [if_neg h1, if_pos h2]
  simp only [eA]
  unfold anwG
  by_cases h3 : wC (gat (jb 0) (jb 1) (jb 3) q (endA jb H q s cl) (q, s, endA jb H q s cl, 0, 0, 0) H) = 0
  · left; intro w; rw [if_pos h3]
  right
  rw [if_neg h3, if_neg h3, if_neg h3]
  obtain ⟨m, m1, m2, m3, m4⟩ := gat_bd (kd := jb 0) (sz := jb 1) (gr := jb 3) (key := q) (en := endA jb H q s cl) H (q, s, endA jb H q s cl, 0, 0, 0) 0 hv (by omega) rfl (by show _ ≤ (0 : Int32).toInt; decide +kernel) (by show (0 : Int32).toInt ≤ _; decide +kernel)
  obtain ⟨-, -, f3, -⟩ := gat_fix (kd := jb 0) (sz := jb 1) (gr := jb 3) (key := q) (en := endA jb H q s cl) H (q, s, endA jb H q s cl, 0, 0, 0)
  have f3 : wE (gat (jb 0) (jb 1) (jb 3) q (endA jb H q s cl) (q, s, endA jb H q s cl, 0, 0, 0) H) = endA jb H q s cl := f3
  have hct := fun hk => gat_ct (jb := jb) hk (q := q) (en := endA jb H q s cl) H (q, s, endA jb H q s cl, 0, 0, 0)
  have n1 : 1 ≤ m := by
    by_cases c : m = 0
    · subst c; exact absurd m2 h3
    · omega
  have w0 : ∀ g : WT, numW 0 g = wC g := fun _ => rfl
  have w1 : ∀ g : WT, numW 1 g = wM g := fun _ => rfl
  have w2 : ∀ g : WT, numW 2 g = wE g := fun _ => rfl
  rw [w0, w1, w2, f3]
  refine ⟨m, n1, by omega, m2, ⟨m3, m4⟩, fun hk => ?_, fun hk => ?_⟩
  · have e : endA jb H q s cl = if laS (jb 2) s = s then s + jb 1 else -1 := if_neg hk
    rw [e] at h1 ⊢
    by_cases c : laS (jb 2) s = s
    · rw [if_pos c]
    · rw [if_neg c] at h1; exact absurd rfl h1
  · have e : endA jb H q s cl = endG (jb 0) (jb 1) (jb 3) q s H cl := if_pos hk
    have hct := hct hk
    rw [m2] at hct
    have hct : nI m = (0 : Int32) + nI (H.filter (fun e => decide (adG jb q e ∧ ¬ eT e < s ∧ ¬ endA jb H q s cl ≤ eT e))).length := hct
    rw [Int32.zero_add] at hct
    have fl := List.length_filter_le (fun e => decide (adG jb q e ∧ ¬ eT e < s ∧ ¬ endA jb H q s cl ≤ eT e)) H
    have hm := (nI_eq (by omega) (by omega)).mp hct
    rw [e] at hm h1 ⊢
    rcases endG_cov hk hz hs cl (q := q) with c | ⟨c1, c2⟩
    · exact absurd c h1
    · refine ⟨c2, ?_⟩
      have k := cover_len (sz := (jb 1).toInt) (by omega) _ ((H.filter (fun e => decide (adG jb q e ∧ ¬ eT e < s ∧ ¬ endG (jb 0) (jb 1) (jb 3) q s H cl ≤ eT e))).map (fun e => (eT e).toInt)) s.toInt (endG (jb 0) (jb 1) (jb 3) q s H cl).toInt (Nat.le_refl _) (fun z z1 z2 => by
        obtain ⟨e, g1, g2, g3, g4, g5⟩ := c1 z z1 z2
        exact ⟨(eT e).toInt, List.mem_map.mpr ⟨e, List.mem_filter.mpr ⟨g1, by rw [decide_eq_true_eq]; exact ⟨g2, fun q => by have := i32_lt q; omega, fun q => by have := i32_le q; omega⟩⟩, rfl⟩, g4, g5⟩)
      rw [List.length_map, ← hm] at k
      omega
end P25A
