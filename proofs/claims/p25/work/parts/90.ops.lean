section PURE3
theorem WOK.nil {jb : Nat → Int32} {mk : Int32} : WOK jb [] mk [] [] := by
  refine ⟨List.Pairwise.nil, List.Pairwise.nil, fun w hw => absurd hw (by simp), ⟨fun _ => ⟨fun w hw => absurd hw (by simp), fun _ _ _ _ _ _ => rfl⟩, fun _ => ⟨fun w hw => absurd hw (by simp), fun e he => absurd he (by simp), List.Pairwise.nil⟩⟩, ⟨fun w hw => absurd hw (by simp), fun k s _ r hr => absurd hr (by show ¬ (none : Option WT) = some r; simp)⟩, Nat.le_refl _, Nat.le_refl _⟩
theorem anw_nil {jb : Nat → Int32} {cl : Nat} {cw q s w : Int32} : anw jb [] cl cw q s w = -1000000 := by
  unfold anw
  split
  · rfl
  · split
    · unfold anwG
      exact if_pos rfl
    · rfl
def frX (jb : Nat → Int32) (sc : SC) (b : BS) (t : TP) : XS := (jb, sc, P0, P0, ([], 0, -1), ([], 0, 0), b, t)
theorem fresh_inv {jb : Nat → Int32} {sc : SC} {b : BS} {t : TP} (h1 : JOK jb) (h2 : SOK sc) (h3 : ∀ s, s < 3 → bA b s ≤ (sEv sc s).length) (h4 : bU b = 0) (h5 : tS t = 0) (h6 : tW t = 1 ∨ tW t = 2 ∨ tW t = 3) : Inv (frX jb sc b t) := by
  have p : POK sc [] P0 := ⟨fun s _ => ⟨Nat.le_refl _, Nat.zero_le _, Nat.zero_le _⟩, rfl, Nat.le_refl _, fun e he => absurd he (by simp), fun s _ => rfl⟩
  refine ⟨⟨h1, h2, p, p, rfl, fun s _ => Nat.le_refl _, WOK.nil, WOK.nil, fun w hw => absurd hw (by simp [gWi, cP, frX, P0]), fun q s w _ _ => anw_nil, rfl, rfl, ⟨Nat.le_refl _, Nat.le_refl _, Nat.le_refl _⟩, ⟨h3, fun z => absurd h4 z⟩, fun _ => ⟨rfl, rfl, rfl, rfl, h4, h5⟩, h6⟩, fun w hw => absurd hw (by simp [gWi, cN, frX, P0])⟩
theorem Frs.eq {x : XS} (h : Frs x) (hb : tB (cT x) = 0) : x = frX (cJ x) (cS x) (cB x) (cT x) := by
  obtain ⟨f1, f2, f3, f4, -, -⟩ := h hb
  obtain ⟨a, b, c, d, e, f, g, i⟩ := x
  show (a, b, c, d, e, f, g, i) = (a, b, P0, P0, ([], 0, -1), ([], 0, 0), g, i)
  rw [show c = P0 from f1, show d = P0 from f2, show e = ([], 0, -1) from f3, show f = ([], 0, 0) from f4]
theorem inv_X0 : Inv X0 := fresh_inv (t := (0, 0, 0, 1)) ⟨Or.inl rfl, by decide +kernel, by decide +kernel, by decide +kernel, by decide +kernel, Or.inr rfl⟩ (fun s _ => ⟨Nat.zero_le _, fun v hv => absurd hv (by simp [sEv, sc0]), by show 0 ≤ (0 : Int32).toInt ∧ (0 : Int32).toInt ≤ 200; decide +kernel, Or.inl rfl⟩) (fun _ _ => Nat.le_refl _) rfl rfl (Or.inl rfl)
theorem rel_X0 : Rel X0 X0 [] 0 := ⟨rfl, ⟨rfl, rfl, rfl⟩, ⟨rfl, rfl, rfl, rfl, rfl, List.Perm.refl _⟩, ⟨rfl, rfl, rfl, rfl, rfl, List.Perm.refl _⟩, ⟨rfl, rfl, REq.rf, REq.rf, REq.rf⟩, ⟨rfl, fun _ => ⟨rfl, rfl⟩, fun _ _ => Nat.le_refl _⟩, rfl, rfl, rfl⟩
theorem RR0 : RR X0 X0 [] 0 := ⟨inv_X0, rel_X0⟩
theorem i32_le0 {a : Int32} {n : Int} (e : (n : Int) = n) : True := trivial
/-- a comparison told in numbers -/
theorem i32_nlt {a b : Int32} (h : ¬ a < b) : b.toInt ≤ a.toInt := Int32.le_iff_toInt_le.mp (Int32.not_lt.mp h)
theorem i32_nle {a b : Int32} (h : ¬ a ≤ b) : b.toInt < a.toInt := Int32.lt_iff_toInt_lt.mp (Int32.not_le.mp h)
theorem i32_le {a b : Int32} (h : a ≤ b) : a.toInt ≤ b.toInt := Int32.le_iff_toInt_le.mp h
theorem i32_lt {a b : Int32} (h : a < b) : a.toInt < b.toInt := Int32.lt_iff_toInt_lt.mp h
theorem jbF_ok {p1 p2 p3 p4 p5 p6 : Int32} (h : ¬ jbBad p1 p2 p3 p4 p5) (h6 : p6 = 0 ∨ p6 = 1) : JOK (jbF p1 p2 p3 p4 p5 p6) := by
  have c1 : ¬ p1 < 0 := fun z => h (Or.inl z)
  have c2 : ¬ 2 < p1 := fun z => h (Or.inr (Or.inl z))
  have c3 : ¬ p2 < 1 := fun z => h (Or.inr (Or.inr (Or.inl z)))
  have c4 : ¬ 200 < p2 := fun z => h (Or.inr (Or.inr (Or.inr (Or.inl z))))
  have c5 : ¬ p4 < 0 := fun z => h (Or.inr (Or.inr (Or.inr (Or.inr (Or.inl z)))))
  have c6 : ¬ 200 < p4 := fun z => h (Or.inr (Or.inr (Or.inr (Or.inr (Or.inr (Or.inl z))))))
  have c7 : ¬ p5 < 0 := fun z => h (Or.inr (Or.inr (Or.inr (Or.inr (Or.inr (Or.inr (Or.inl z)))))))
  have c8 : ¬ 200 < p5 := fun z => h (Or.inr (Or.inr (Or.inr (Or.inr (Or.inr (Or.inr (Or.inr (Or.inl z))))))))
  have d1 := i32_nlt c1
  have d2 := i32_nlt c2
  have d3 := i32_nlt c3
  have d4 := i32_nlt c4
  have d5 := i32_nlt c5
  have d6 := i32_nlt c6
  have d7 := i32_nlt c7
  have d8 := i32_nlt c8
  have e0 : (0 : Int32).toInt = 0 := by decide +kernel
  have e1 : (1 : Int32).toInt = 1 := by decide +kernel
  have e2 : (2 : Int32).toInt = 2 := by decide +kernel
  have e200 : (200 : Int32).toInt = 200 := by decide +kernel
  rw [e0] at d1 d5 d7
  rw [e1] at d3
  rw [e2] at d2
  rw [e200] at d4 d6 d8
  refine ⟨?_, ⟨d3, d4⟩, ?_, ⟨d5, d6⟩, ⟨d7, d8⟩, h6⟩
  · have c : p1.toInt = 0 ∨ p1.toInt = 1 ∨ p1.toInt = 2 := by omega
    rcases c with c | c | c
    · exact Or.inl (Int32.toInt_inj.mp (c.trans e0.symm))
    · exact Or.inr (Or.inl (Int32.toInt_inj.mp (c.trans e1.symm)))
    · exact Or.inr (Or.inr (Int32.toInt_inj.mp (c.trans e2.symm)))
  · show 1 ≤ (if p1 = 1 then p3 else p2).toInt ∧ (if p1 = 1 then p3 else p2).toInt ≤ p2.toInt ∧ p2.toInt ≤ 8 * (if p1 = 1 then p3 else p2).toInt
    by_cases c : p1 = 1
    · rw [if_pos c]
      have b1 : ¬ p3 < 1 := fun z => h (Or.inr (Or.inr (Or.inr (Or.inr (Or.inr (Or.inr (Or.inr (Or.inr ⟨c, Or.inl z⟩))))))))
      have b2 : ¬ p2 < p3 := fun z => h (Or.inr (Or.inr (Or.inr (Or.inr (Or.inr (Or.inr (Or.inr (Or.inr ⟨c, Or.inr (Or.inl z)⟩))))))))
      have b3 : ¬ 8 * p3 < p2 := fun z => h (Or.inr (Or.inr (Or.inr (Or.inr (Or.inr (Or.inr (Or.inr (Or.inr ⟨c, Or.inr (Or.inr z)⟩))))))))
      have f1 := i32_nlt b1
      have f2 := i32_nlt b2
      have f3 := i32_nlt b3
      rw [e1] at f1
      have e8 : (8 : Int32).toInt = 8 := by decide +kernel
      rw [Int32.toInt_mul, e8, Int.bmod_eq_of_le (by omega) (by omega)] at f3
      exact ⟨f1, f2, f3⟩
    · rw [if_neg c]
      omega
theorem qJob : QJob RR := by
  intro x y Jd JK ⟨⟨hi, ho⟩, hr⟩ p1 p2 p3 p4 p5 p6 h6
  obtain ⟨r1, r2, r3, r4, r5, r6, r7, r8, r9⟩ := id hr
  unfold fJob
  by_cases c : jbBad p1 p2 p3 p4 p5
  · rw [if_pos c, if_pos c]
    exact ⟨rfl, ⟨hi, ho⟩, hr⟩
  · rw [if_neg c, if_neg c, ← r7]
    by_cases c2 : tB (cT x) = 0
    · rw [if_pos c2, if_pos c2]
      obtain ⟨i1, i2, i3, i4, i5, i6, i7, i8, i9, i10, i11, i12, i13, i14, i15, i16⟩ := hi
      obtain ⟨f1, f2, f3, f4, f5, f6⟩ := i15 c2
      refine ⟨rfl, ?_, rfl, r2, r3, r4, r5, r6, rfl, r8, r9⟩
      have := fresh_inv (sc := cS x) (b := cB x) (t := cT x) (jbF_ok c h6) i2 i14.1 f5 f6 i16
      show Inv (jbF p1 p2 p3 p4 p5 p6, cS x, cN x, cP x, cH x, cK x, cB x, cT x)
      rw [f1, f2, f3, f4]
      exact this
    · rw [if_neg c2, if_neg c2]
      exact ⟨rfl, ⟨hi, ho⟩, hr⟩
theorem qSlack : QSlack RR := by
  intro x y Jd JK ⟨⟨hi, ho⟩, hr⟩ q v
  obtain ⟨r1, r2, r3, r4, r5, r6, r7, r8, r9⟩ := id hr
  unfold fSlack
  by_cases c : sIx q < 3
  · rw [if_pos c, if_pos c]
    by_cases c1 : v < 0
    · rw [if_pos c1, if_pos c1]
      exact ⟨⟨rfl, fun _ => rfl⟩, ⟨hi, ho⟩, hr⟩
    · rw [if_neg c1, if_neg c1]
      by_cases c3 : (200 : Int32) < v
      · rw [if_pos c3, if_pos c3]
        exact ⟨⟨rfl, fun _ => rfl⟩, ⟨hi, ho⟩, hr⟩
      · rw [if_neg c3, if_neg c3, ← r7]
        by_cases c2 : tB (cT x) = 0
        · rw [if_pos c2, if_pos c2]
          obtain ⟨i1, i2, i3, i4, i5, i6, i7, i8, i9, i10, i11, i12, i13, i14, i15, i16⟩ := hi
          obtain ⟨f1, f2, f3, f4, f5, f6⟩ := i15 c2
          refine ⟨⟨rfl, fun _ => by show sSl (cS x) _ = sSl (cS y) _; rw [r2.2.1]⟩, ?_, r1, ⟨r2.1, ?_, r2.2.2⟩, r3, r4, r5, r6, rfl, r8, r9⟩
          · have so : SOK (setSl (cS x) (sIx q) v) := fun s hs => by
              obtain ⟨a1, a2, a3, a4⟩ := i2 s hs
              refine ⟨a1, a2, ?_, a4⟩
              show 0 ≤ (if s = sIx q then v else sSl (cS x) s).toInt ∧ (if s = sIx q then v else sSl (cS x) s).toInt ≤ 200
              by_cases d : s = sIx q
              · rw [if_pos d]
                have e0 : (0 : Int32).toInt = 0 := by decide +kernel
                have e200 : (200 : Int32).toInt = 200 := by decide +kernel
                have d1 := i32_nlt c1
                have d3 := i32_nlt c3
                omega
              · rw [if_neg d]; exact a3
            have := fresh_inv (sc := setSl (cS x) (sIx q) v) (b := cB x) (t := cT x) i1 so i14.1 f5 f6 i16
            show Inv (cJ x, setSl (cS x) (sIx q) v, cN x, cP x, cH x, cK x, cB x, cT x)
            rw [f1, f2, f3, f4]
            exact this
          · show up1 (sSl (cS x)) (sIx q) v = up1 (sSl (cS y)) (sIx q) v
            rw [r2.2.1]
        · rw [if_neg c2, if_neg c2]
          exact ⟨⟨rfl, fun _ => rfl⟩, ⟨hi, ho⟩, hr⟩
  · rw [if_neg c, if_neg c]
    exact ⟨⟨rfl, fun _ => rfl⟩, ⟨hi, ho⟩, hr⟩
theorem qSW : QSW RR := by
  intro x y Jd JK ⟨_, hr⟩ q
  obtain ⟨r1, r2, r3, -⟩ := hr
  have e : mkfP (cN x) (cS x) = mkfP (cN y) (cS y) := by
    funext s
    unfold mkfP
    rw [r3.2.2.1, r2.2.1]
  unfold fSourceWatermark
  rw [e]
  split
  · exact ⟨rfl, fun _ => rfl⟩
  · exact ⟨rfl, fun _ => rfl⟩
theorem qOff : QOff RR := by
  intro x y Jd JK ⟨_, hr⟩ q
  obtain ⟨r1, r2, r3, -⟩ := hr
  unfold fOffset
  rw [r3.1]
  split
  · exact ⟨rfl, fun _ => rfl⟩
  · exact ⟨rfl, fun _ => rfl⟩
theorem qIn : QIn RR := by
  intro x y Jd JK ⟨_, hr⟩ q
  obtain ⟨r1, r2, r3, -⟩ := hr
  unfold fInChannel
  rw [r3.1, r3.2.1]
  split
  · exact ⟨rfl, fun _ => rfl⟩
  · exact ⟨rfl, fun _ => rfl⟩
theorem cntO_c {jb : Nat → Int32} {mk wk q : Int32} : ∀ (L : List WT) (c : Int32), cntO jb mk wk q c L = c + cntO jb mk wk q 0 L
  | [], c => (Int32.add_zero c).symm
  | w :: L, c => by
    unfold cntO
    by_cases d : wK w * wk / 6 = q ∧ opn jb mk w
    · rw [if_pos d, if_pos d, cntO_c L (c + 1), cntO_c L (0 + 1), Int32.zero_add, Int32.add_assoc]
    · rw [if_neg d, if_neg d]; exact cntO_c L c
theorem cntO_perm {jb : Nat → Int32} {mk wk q : Int32} {L M : List WT} (h : L.Perm M) : ∀ c : Int32, cntO jb mk wk q c L = cntO jb mk wk q c M := by
  induction h with
  | nil => exact fun _ => rfl
  | cons a _ ih => exact fun c => ih _
  | swap a b l =>
    intro c
    show cntO jb mk wk q (if _ then (if _ then c + 1 else c) + 1 else (if _ then c + 1 else c)) l = cntO jb mk wk q (if _ then (if _ then c + 1 else c) + 1 else (if _ then c + 1 else c)) l
    congr 1
    split <;> split <;> rfl
  | trans _ _ ih1 ih2 => exact fun c => (ih1 c).trans (ih2 c)
theorem qOpen : QOpen RR := by
  intro x y Jd JK ⟨_, hr⟩ q
  obtain ⟨r1, r2, r3, r4, r5, r6, r7, r8, r9⟩ := hr
  unfold fOpen
  rw [← r1, ← r7, ← r3.2.2.2.1, cntO_perm r3.2.2.2.2.2]
  split
  · exact ⟨rfl, fun _ => rfl⟩
  · split
    · exact ⟨rfl, fun _ => rfl⟩
    · exact ⟨rfl, fun _ => rfl⟩
end PURE3
