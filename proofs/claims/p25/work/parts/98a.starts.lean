section STARTS
theorem i32_add {a b : Int32} (h1 : -2147483648 ≤ a.toInt + b.toInt) (h2 : a.toInt + b.toInt < 2147483648) : (a + b).toInt = a.toInt + b.toInt := by
  rw [Int32.toInt_add]
  exact Int.bmod_eq_of_le (by omega) (by omega)
theorem i32_sub {a b : Int32} (h1 : -2147483648 ≤ a.toInt - b.toInt) (h2 : a.toInt - b.toInt < 2147483648) : (a - b).toInt = a.toInt - b.toInt := by
  rw [Int32.toInt_sub]
  exact Int.bmod_eq_of_le (by omega) (by omega)
theorem la_int {st t : Int32} (hs : 1 ≤ st.toInt ∧ st.toInt ≤ 200) (ht : 0 ≤ t.toInt ∧ t.toInt ≤ 999) : (laS st t).toInt = t.toInt / st.toInt * st.toInt ∧ laS st t = t / st * st := by
  have e1 : (1 : Int32).toInt = 1 := by decide +kernel
  have c : (1 : Int32) ≤ st := Int32.le_iff_toInt_le.mpr (by rw [e1]; exact hs.1)
  have e : laS st t = t / st * st := by
    unfold laS
    rw [if_pos c]
    generalize t / st * st = z
    have : t - (t - z) = z := by
      rw [Int32.sub_eq_add_neg, Int32.neg_sub, Int32.sub_eq_add_neg, Int32.add_comm z, ← Int32.add_assoc, Int32.add_right_neg, Int32.zero_add]
    exact this
  refine ⟨?_, e⟩
  rw [e]
  have q0 : 0 ≤ t.toInt / st.toInt := Int.ediv_nonneg ht.1 (by omega)
  have q1 : t.toInt / st.toInt * st.toInt ≤ t.toInt := Int.ediv_mul_le _ (by omega)
  have q2 : t.toInt / st.toInt ≤ t.toInt := Int.ediv_le_self _ ht.1
  have q3 : 0 ≤ t.toInt / st.toInt * st.toInt := Int.mul_nonneg q0 (by omega)
  have d : (t / st).toInt = t.toInt / st.toInt := by
    rw [Int32.toInt_div, Int.tdiv_eq_ediv_of_nonneg ht.1]
    exact Int.bmod_eq_of_le (by omega) (by omega)
  rw [Int32.toInt_mul, d]
  exact Int.bmod_eq_of_le (by omega) (by omega)
theorem bkS_int {st sz t x : Int32} (hs : 1 ≤ st.toInt ∧ st.toInt ≤ 200) (hz : 1 ≤ sz.toInt ∧ sz.toInt ≤ 200) (hx : 0 ≤ x.toInt ∧ x.toInt ≤ 999) : ((x.toInt - st.toInt < 0 ∨ x.toInt - st.toInt + sz.toInt ≤ t.toInt) → bkS st sz t x = x) ∧ (¬ (x.toInt - st.toInt < 0 ∨ x.toInt - st.toInt + sz.toInt ≤ t.toInt) → bkS st sz t x = x - st) := by
  have e0 : (0 : Int32).toInt = 0 := by decide +kernel
  have s1 : (x - st).toInt = x.toInt - st.toInt := i32_sub (by omega) (by omega)
  have s2 : (x - st + sz).toInt = x.toInt - st.toInt + sz.toInt := by rw [i32_add (by rw [s1]; omega) (by rw [s1]; omega), s1]
  unfold bkS
  by_cases c : x - st < 0
  · have c' := i32_lt c
    rw [if_pos c]
    exact ⟨fun _ => rfl, fun z => absurd (Or.inl (by rw [s1, e0] at c'; exact c')) z⟩
  · have c' := i32_nlt c
    rw [s1, e0] at c'
    rw [if_neg c]
    by_cases d : x - st + sz ≤ t
    · have d' := i32_le d
      rw [s2] at d'
      rw [if_pos d]
      exact ⟨fun _ => rfl, fun z => absurd (Or.inr d') z⟩
    · have d' := i32_nle d
      rw [s2] at d'
      rw [if_neg d]
      exact ⟨fun z => by omega, fun _ => rfl⟩
theorem bk_still {st sz t x : Int32} (h : bkS st sz t x = x) : ∀ n, bk st sz t n x = x
  | 0 => rfl
  | n + 1 => by
    show bk st sz t n (bkS st sz t x) = x
    rw [h]; exact bk_still h n
/-- back from x: k steps, every one of them to a window that has t, and it can go no further but that n are done -/
theorem bk_spec {st sz t : Int32} (hs : 1 ≤ st.toInt ∧ st.toInt ≤ 200) (hz : 1 ≤ sz.toInt ∧ sz.toInt ≤ 200) : ∀ (n : Nat) (x : Int32), 0 ≤ x.toInt → x.toInt ≤ 999 → ∃ k : Nat, k ≤ n ∧ (bk st sz t n x).toInt = x.toInt - k * st.toInt ∧ 0 ≤ (bk st sz t n x).toInt ∧ (0 < k → t.toInt < (bk st sz t n x).toInt + sz.toInt) ∧ (k < n → bkS st sz t (bk st sz t n x) = bk st sz t n x)
  | 0, x, h0, h1 => ⟨0, Nat.le_refl _, by show x.toInt = _; omega, h0, fun z => absurd z (Nat.lt_irrefl _), fun z => absurd z (Nat.lt_irrefl _)⟩
  | n + 1, x, h0, h1 => by
    obtain ⟨b1, b2⟩ := bkS_int (t := t) hs hz ⟨h0, h1⟩
    by_cases c : x.toInt - st.toInt < 0 ∨ x.toInt - st.toInt + sz.toInt ≤ t.toInt
    · have e := bk_still (b1 c) (n + 1)
      refine ⟨0, Nat.zero_le _, by rw [e]; omega, by rw [e]; exact h0, fun z => absurd z (Nat.lt_irrefl _), fun _ => by rw [e]; exact b1 c⟩
    · have e : bk st sz t (n + 1) x = bk st sz t n (x - st) := by
        show bk st sz t n (bkS st sz t x) = _
        rw [b2 c]
      have s1 : (x - st).toInt = x.toInt - st.toInt := i32_sub (by omega) (by omega)
      obtain ⟨k, k1, k2, k3, k4, k5⟩ := bk_spec hs hz n (x - st) (by omega) (by omega)
      rw [e]
      refine ⟨k + 1, by omega, ?_, k3, fun _ => ?_, fun z => k5 (by omega)⟩
      · rw [k2, s1]
        have : ((k + 1 : Nat) : Int) * st.toInt = k * st.toInt + st.toInt := by
          rw [Int.natCast_add, Int.add_mul]; omega
        omega
      · by_cases d : k = 0
        · subst d
          rw [k2, s1]
          omega
        · exact k4 (by omega)
theorem sts_mem {fs la st sz gr mk s : Int32} : ∀ (m i : Nat), s ∈ sts fs la st sz gr mk m i ↔ ∃ j, i ≤ j ∧ j < i + m ∧ s = fs + nI j * st ∧ ¬ la < s ∧ ¬ s + sz + gr ≤ mk
  | 0, i => by
    constructor
    · intro h; exact absurd h (by simp [sts])
    · rintro ⟨j, h1, h2, -⟩; omega
  | m + 1, i => by
    have ih := sts_mem (fs := fs) (la := la) (st := st) (sz := sz) (gr := gr) (mk := mk) (s := s) m (i + 1)
    unfold sts
    constructor
    · intro h
      have sub : s ∈ sts fs la st sz gr mk m (i + 1) → ∃ j, i ≤ j ∧ j < i + (m + 1) ∧ s = fs + nI j * st ∧ ¬ la < s ∧ ¬ s + sz + gr ≤ mk := fun h => by
        obtain ⟨j, h1, h2, h3⟩ := ih.mp h
        exact ⟨j, by omega, by omega, h3⟩
      split at h
      · exact sub h
      · rename_i c1
        split at h
        · exact sub h
        · rename_i c2
          rcases List.mem_cons.mp h with e | h
          · exact ⟨i, Nat.le_refl _, by omega, e, by rw [e]; exact c1, by rw [e]; exact c2⟩
          · exact sub h
    · rintro ⟨j, h1, h2, h3, h4, h5⟩
      have sub : ¬ j = i → s ∈ sts fs la st sz gr mk m (i + 1) := fun h => ih.mpr ⟨j, by omega, by omega, h3, h4, h5⟩
      split
      · rename_i c
        exact sub (fun e => h4 (by rw [h3, e]; exact c))
      · split
        · rename_i c
          exact sub (fun e => h5 (by rw [h3, e]; exact c))
        · by_cases d : j = i
          · rw [h3, d]; exact List.mem_cons_self
          · exact List.mem_cons_of_mem _ (sub d)
theorem sts_len {fs la st sz gr mk : Int32} : ∀ (m i : Nat), (sts fs la st sz gr mk m i).length ≤ m
  | 0, _ => Nat.le_refl _
  | m + 1, i => by
    have := sts_len (fs := fs) (la := la) (st := st) (sz := sz) (gr := gr) (mk := mk) m (i + 1)
    unfold sts
    split
    · omega
    · split
      · omega
      · simp only [List.length_cons]; omega
theorem st_at {fs st : Int32} {j : Nat} (hs : 1 ≤ st.toInt ∧ st.toInt ≤ 200) (hf : 0 ≤ fs.toInt ∧ fs.toInt ≤ 999) (hj : j ≤ 8) : (fs + nI j * st).toInt = fs.toInt + j * st.toInt := by
  have hm : (j : Int) * st.toInt ≤ 8 * 200 := Int.mul_le_mul (by omega) hs.2 (by omega) (by omega)
  have hm0 : 0 ≤ (j : Int) * st.toInt := Int.mul_nonneg (by omega) (by omega)
  have e : (nI j * st).toInt = j * st.toInt := by
    rw [Int32.toInt_mul, nI_toInt (by omega)]
    exact Int.bmod_eq_of_le (by omega) (by omega)
  rw [i32_add (by rw [e]; omega) (by rw [e]; omega), e]
theorem sts_nodup {fs la st sz gr mk : Int32} (hs : 1 ≤ st.toInt ∧ st.toInt ≤ 200) (hf : 0 ≤ fs.toInt ∧ fs.toInt ≤ 999) : ∀ (m i : Nat), i + m ≤ 8 → (sts fs la st sz gr mk m i).Nodup
  | 0, _, _ => List.nodup_nil
  | m + 1, i, h => by
    have ih := sts_nodup (la := la) (sz := sz) (gr := gr) (mk := mk) hs hf m (i + 1) (by omega)
    unfold sts
    split
    · exact ih
    · split
      · exact ih
      · refine List.nodup_cons.mpr ⟨fun z => ?_, ih⟩
        obtain ⟨j, h1, h2, h3, -⟩ := (sts_mem m (i + 1)).mp z
        have e := congrArg Int32.toInt h3
        rw [st_at hs hf (by omega), st_at hs hf (by omega)] at e
        have : ((i : Int)) * st.toInt < j * st.toInt := Int.mul_lt_mul_of_pos_right (by omega) (by omega)
        omega
/-- the starts of an event's windows -/
def stA (jb : Nat → Int32) (v : V3) (mk : Int32) : List Int32 := sts (bk (jb 2) (jb 1) v.1 7 (laS (jb 2) v.1)) (laS (jb 2) v.1) (jb 2) (jb 1) (jb 3) mk 8 0
theorem stA_facts {jb : Nat → Int32} {v : V3} (mk : Int32) (hj : JOK jb) (hv : VOK v) : StepOK (jb 2) (jb 1) (jb 3) mk v.1 ∧ ∀ s, s ∈ stA jb v mk ↔ (laS (jb 2) s = s ∧ 0 ≤ s.toInt ∧ s.toInt ≤ v.1.toInt ∧ v.1.toInt < s.toInt + (jb 1).toInt ∧ ¬ s + jb 1 + jb 3 ≤ mk) := by
  obtain ⟨-, hz, ⟨h1, h2, h3⟩, -⟩ := hj
  have hs : 1 ≤ (jb 2).toInt ∧ (jb 2).toInt ≤ 200 := ⟨h1, by omega⟩
  have hv1 : 0 ≤ v.1.toInt ∧ v.1.toInt ≤ 999 := ⟨hv.1, hv.2.1⟩
  obtain ⟨l1, l2⟩ := la_int hs hv1
  have q1 : v.1.toInt / (jb 2).toInt * (jb 2).toInt ≤ v.1.toInt := Int.ediv_mul_le _ (by omega)
  have q3 : 0 ≤ v.1.toInt / (jb 2).toInt * (jb 2).toInt := Int.mul_nonneg (Int.ediv_nonneg hv.1 (by omega)) (by omega)
  have q4 : v.1.toInt < v.1.toInt / (jb 2).toInt * (jb 2).toInt + (jb 2).toInt := by
    have := Int.lt_ediv_add_one_mul_self v.1.toInt (b := (jb 2).toInt) (by omega)
    rw [Int.add_mul] at this
    omega
  obtain ⟨k, k1, k2, k3, k4, k5⟩ := bk_spec (t := v.1) hs hz 7 (laS (jb 2) v.1) (by omega) (by omega)
  unfold stA StepOK
  generalize hfs : bk (jb 2) (jb 1) v.1 7 (laS (jb 2) v.1) = fs at *
  have hkD : 0 ≤ (k : Int) * (jb 2).toInt := Int.mul_nonneg (by omega) (by omega)
  have hf : 0 ≤ fs.toInt ∧ fs.toInt ≤ 999 := ⟨k3, by omega⟩
  have cov : v.1.toInt < fs.toInt + (jb 1).toInt := by
    by_cases c : k = 0
    · subst c; omega
    · exact k4 (by omega)
  have fix : bkS (jb 2) (jb 1) v.1 fs = fs := by
    by_cases c : k < 7
    · exact k5 c
    · have e : k = 7 := by omega
      subst e
      refine (bkS_int hs hz hf).1 (Or.inr ?_)
      omega
  have stop : fs.toInt - (jb 2).toInt < 0 ∨ fs.toInt - (jb 2).toInt + (jb 1).toInt ≤ v.1.toInt := by
    by_cases c : fs.toInt - (jb 2).toInt < 0 ∨ fs.toInt - (jb 2).toInt + (jb 1).toInt ≤ v.1.toInt
    · exact c
    · have e := (bkS_int (t := v.1) hs hz hf).2 c
      rw [fix] at e
      have e2 := congrArg Int32.toInt e
      rw [i32_sub (by omega) (by omega)] at e2
      omega
  have last : laS (jb 2) v.1 < fs + nI 8 * jb 2 := by
    rw [Int32.lt_iff_toInt_lt, st_at hs hf (by omega)]
    have : (k : Int) * (jb 2).toInt ≤ 7 * (jb 2).toInt := Int.mul_le_mul_of_nonneg_right (by omega) (by omega)
    omega
  refine ⟨⟨fun z => ?_, l2, sts_nodup hs hf 8 0 (by omega), sts_len 8 0, fix, fun i hi hl => ?_, last⟩, fun s => ?_⟩
  · rw [z] at h1
    exact absurd h1 (by decide +kernel)
  · refine List.eq_nil_iff_forall_not_mem.mpr (fun s hm => ?_)
    obtain ⟨j, j1, j2, j3, j4, -⟩ := (sts_mem (8 - i) i).mp hm
    refine j4 ?_
    rw [Int32.lt_iff_toInt_lt, j3, st_at hs hf (by omega)]
    have hl := i32_lt hl
    rw [st_at hs hf (by omega)] at hl
    have : (i : Int) * (jb 2).toInt ≤ j * (jb 2).toInt := Int.mul_le_mul_of_nonneg_right (by omega) (by omega)
    omega
  · rw [sts_mem 8 0]
    have dvd : ∀ z : Int32, 0 ≤ z.toInt → z.toInt ≤ 999 → (laS (jb 2) z = z ↔ z.toInt / (jb 2).toInt * (jb 2).toInt = z.toInt) := fun z z0 z1 => by
      rw [← (la_int hs ⟨z0, z1⟩).1]
      exact ⟨fun e => by rw [e], fun e => Int32.toInt_inj.mp e⟩
    constructor
    · rintro ⟨j, -, j2, j3, j4, j5⟩
      have j4 := i32_nlt j4
      have e : s.toInt = fs.toInt + j * (jb 2).toInt := by rw [j3]; exact st_at hs hf (by omega)
      have hj0 : 0 ≤ (j : Int) * (jb 2).toInt := Int.mul_nonneg (by omega) (by omega)
      refine ⟨(dvd s (by omega) (by omega)).mpr ?_, by omega, by omega, by omega, j5⟩
      have e2 : s.toInt = (v.1.toInt / (jb 2).toInt - k + j) * (jb 2).toInt := by
        rw [Int.add_mul, Int.sub_mul]; omega
      rw [e2, Int.mul_ediv_cancel _ (by omega)]
    · rintro ⟨a1, a2, a3, a4, a5⟩
      have a1 := (dvd s a2 (by omega)).mp a1
      generalize hq : s.toInt / (jb 2).toInt = q at a1
      generalize hp : v.1.toInt / (jb 2).toInt = p at *
      have qp : q ≤ p := by
        rw [← hq, ← hp]
        exact Int.ediv_le_ediv (by omega) a3
      have ge : p - k ≤ q := by
        by_cases c : p - k ≤ q
        · exact c
        · exfalso
          have : (q + 1) * (jb 2).toInt ≤ (p - k) * (jb 2).toInt := Int.mul_le_mul_of_nonneg_right (by omega) (by omega)
          rw [Int.add_mul, Int.sub_mul] at this
          rcases stop with z | z <;> omega
      refine ⟨(q - (p - k)).toNat, Nat.zero_le _, by omega, ?_, ?_, a5⟩
      · apply Int32.toInt_inj.mp
        rw [st_at hs hf (by omega)]
        have : (((q - (p - k)).toNat : Nat) : Int) = q - (p - k) := Int.toNat_of_nonneg (by omega)
        rw [this, Int.sub_mul, Int.sub_mul]
        omega
      · rw [Int32.lt_iff_toInt_lt, l1]
        have : q * (jb 2).toInt ≤ p * (jb 2).toInt := Int.mul_le_mul_of_nonneg_right qp (by omega)
        omega
end STARTS
