section LAWL
variable {E : EV} {sc : Nat → Int32} {N : Nat} {Post : Res → GH → Prop} {A : Nat → Nat} {R : RX}
/-- 22 numbers and no more -/
theorem op_out {w : Int32} (h : ¬ w = 0 ∧ ¬ w = 1 ∧ ¬ w = 2 ∧ ¬ w = 3 ∧ ¬ w = 4 ∧ ¬ w = 5 ∧ ¬ w = 6 ∧ ¬ w = 7 ∧ ¬ w = 8 ∧ ¬ w = 9 ∧ ¬ w = 10 ∧ ¬ w = 11 ∧ ¬ w = 12 ∧ ¬ w = 13 ∧ ¬ w = 14 ∧ ¬ w = 15 ∧ ¬ w = 16 ∧ ¬ w = 17 ∧ ¬ w = 18 ∧ ¬ w = 19 ∧ ¬ w = 20 ∧ ¬ w = 21) : Int32.toInt w < 0 ∨ 21 < Int32.toInt w := by
  by_cases c : Int32.toInt w < 0 ∨ 21 < Int32.toInt w
  · exact c
  · exfalso
    obtain ⟨k, hk, e⟩ : ∃ k : Nat, k < 22 ∧ w = nI k := ⟨w.toInt.toNat, by omega, Int32.toInt_inj.mp (by rw [nI_toInt (by omega)]; omega)⟩
    match k, hk with
    | 0, _ => exact h.1 e
    | 1, _ => exact h.2.1 e
    | 2, _ => exact h.2.2.1 e
    | 3, _ => exact h.2.2.2.1 e
    | 4, _ => exact h.2.2.2.2.1 e
    | 5, _ => exact h.2.2.2.2.2.1 e
    | 6, _ => exact h.2.2.2.2.2.2.1 e
    | 7, _ => exact h.2.2.2.2.2.2.2.1 e
    | 8, _ => exact h.2.2.2.2.2.2.2.2.1 e
    | 9, _ => exact h.2.2.2.2.2.2.2.2.2.1 e
    | 10, _ => exact h.2.2.2.2.2.2.2.2.2.2.1 e
    | 11, _ => exact h.2.2.2.2.2.2.2.2.2.2.2.1 e
    | 12, _ => exact h.2.2.2.2.2.2.2.2.2.2.2.2.1 e
    | 13, _ => exact h.2.2.2.2.2.2.2.2.2.2.2.2.2.1 e
    | 14, _ => exact h.2.2.2.2.2.2.2.2.2.2.2.2.2.2.1 e
    | 15, _ => exact h.2.2.2.2.2.2.2.2.2.2.2.2.2.2.2.1 e
    | 16, _ => exact h.2.2.2.2.2.2.2.2.2.2.2.2.2.2.2.2.1 e
    | 17, _ => exact h.2.2.2.2.2.2.2.2.2.2.2.2.2.2.2.2.2.1 e
    | 18, _ => exact h.2.2.2.2.2.2.2.2.2.2.2.2.2.2.2.2.2.2.1 e
    | 19, _ => exact h.2.2.2.2.2.2.2.2.2.2.2.2.2.2.2.2.2.2.2.1 e
    | 20, _ => exact h.2.2.2.2.2.2.2.2.2.2.2.2.2.2.2.2.2.2.2.2.1 e
    | 21, _ => exact h.2.2.2.2.2.2.2.2.2.2.2.2.2.2.2.2.2.2.2.2.2 e
    | k + 22, hk => exact absurd hk (by omega)
theorem law_loop (hA : InjA A) (hN : N ≤ 3584) (hS : SimR R) {G0 : GH} (hP : ∀ G o p x, StS E G o A x p → Cs G0 0 G (p + N) → Post (.inl (some (.int 1))) G) : ∀ (d i : Nat) (G : GH) (o : Nat → Nat) (p : Nat) (x y : XS) (Jd : List Nat) (JK : Nat), i ≤ N → N < d + i → LW E sc N G o A x p y Jd JK → R x y Jd JK → Cs G0 0 G (p + i) → J E 14 m_La_law 23 (LL A i) [] G Post := by
  intro d
  induction d with
  | zero => intro i G o p x y Jd JK h1 h2; omega
  | succ d ih =>
    intro i G o p x y Jd JK hiN hd hW hR hC
    obtain ⟨-, -, -, -, -, -, w7, w8, w9, -⟩ := id hW
    have cmp : (nI N - 7 < nI i) ↔ N < i + 7 := by
      have e7 : (nI N - (7 : Int32)).toInt = (N : Int) - 7 := by
        rw [Int32.toInt_sub, nI_toInt (by omega), show (7 : Int32).toInt = 7 by decide +kernel]
        exact Int.bmod_eq_of_le (by omega) (by omega)
      rw [Int32.lt_iff_toInt_lt, e7, nI_toInt (by omega)]
      omega
    refine wl_La_law_23 _ _ _ _ _ ⟨by rcases w7 with z | z <;> rw [z] <;> decide, ?_, ?_⟩
    · rw [w8]
      exact fun c => hP G o p x hW.1 (hC.up (by omega))
    · rw [w8]
      intro c
      have hi : i + 7 ≤ N := Nat.le_of_not_lt (fun z => c (cmp.mpr z))
      have K : KN E sc N i G A p R Post := fun G' o' p' x' y' J' JK' k1 k2 k3 => by
        have e : nI i + 7 = nI (i + 7) := nI_add i 7
        show J E 14 m_La_law 23 [some (.ref (A 33)), some (.ref (A 0)), some (.ref (A 31)), some (.ref (A 32)), some (.int (nI i + 7)), none, none] [] G' Post
        rw [e]
        refine ih (i + 7) G' o' p' x' y' J' JK' hi (by omega) k1 k2 ?_
        have t := hC.tr (k3.up (q := p + i) (q1 := p' + (i + 7)) (by omega))
        exact t
      have s1 := w9 (i + 1)
      have s2 := w9 (i + 2)
      have s3 := w9 (i + 3)
      have s4 := w9 (i + 4)
      have s5 := w9 (i + 5)
      have s6 := w9 (i + 6)
      refine ⟨w7, i, IX.nI (by omega) (by omega), ?_⟩
      rw [← w8]
      refine ⟨fun _ => ⟨i + 1, hW.arg hi hN 1 (by omega), i + 2, hW.arg hi hN 2 (by omega), i + 3, hW.arg hi hN 3 (by omega), i + 4, hW.arg hi hN 4 (by omega), i + 5, hW.arg hi hN 5 (by omega), i + 6, hW.arg hi hN 6 (by omega), by rw [s1, s2, s3, s4, s5, s6]; exact ⟨fun z => o_job (Or.inl rfl) ⟨fun _ => rfl, fun q => absurd z q⟩ hA hW hi hN hR hS K, fun z => o_job (Or.inr rfl) ⟨fun q => absurd q z, fun _ => rfl⟩ hA hW hi hN hR hS K⟩⟩,
        fun _ => ⟨i + 1, hW.arg hi hN 1 (by omega), i + 2, hW.arg hi hN 2 (by omega), by rw [s1, s2]; exact o_slack hA hW hi hN hR hS K⟩,
        fun _ => ⟨i + 1, hW.arg hi hN 1 (by omega), i + 2, hW.arg hi hN 2 (by omega), i + 3, hW.arg hi hN 3 (by omega), i + 4, hW.arg hi hN 4 (by omega), by rw [s1, s2, s3, s4]; exact o_append hA hW hi hN hR hS K⟩,
        fun _ => ⟨i + 1, hW.arg hi hN 1 (by omega), by rw [s1]; exact o_read hA hW hi hN hR hS K⟩,
        fun _ => ⟨i + 1, hW.arg hi hN 1 (by omega), i + 2, hW.arg hi hN 2 (by omega), by rw [s1, s2]; exact ⟨fun z => o_idle (Or.inl rfl) ⟨fun _ => rfl, fun q => absurd z q⟩ hA hW hi hN hR hS K, fun z => o_idle (Or.inr rfl) ⟨fun q => absurd q z, fun _ => rfl⟩ hA hW hi hN hR hS K⟩⟩,
        fun _ => ⟨i + 1, hW.arg hi hN 1 (by omega), by rw [s1]; exact o_take hA hW hi hN hR hS K⟩,
        fun _ => o_barrier hA hW hi hN hR hS K,
        fun _ => o_confirm hA hW hi hN hR hS K,
        fun _ => o_fail hA hW hR hS K,
        fun _ => ⟨i + 1, hW.arg hi hN 1 (by omega), by rw [s1]; exact o_workers hA hW hi hN hR hS K⟩,
        fun _ => o_watermark hA hW hR hS K,
        fun _ => ⟨i + 1, hW.arg hi hN 1 (by omega), by rw [s1]; exact o_sourceWatermark hA hW hi hN hR hS K⟩,
        fun _ => ⟨i + 1, hW.arg hi hN 1 (by omega), by rw [s1]; exact o_offset hA hW hi hN hR hS K⟩,
        fun _ => ⟨i + 1, hW.arg hi hN 1 (by omega), by rw [s1]; exact o_inChannel hA hW hi hN hR hS K⟩,
        fun _ => ⟨i + 1, hW.arg hi hN 1 (by omega), by rw [s1]; exact o_open hA hW hi hN hR hS K⟩,
        fun _ => ⟨i + 1, hW.arg hi hN 1 (by omega), i + 2, hW.arg hi hN 2 (by omega), by rw [s1, s2]; exact o_sumAt hA hW hi hN hR hS K⟩,
        fun _ => o_dropped hA hW hR hS K,
        fun _ => o_pairs hA hW hR hS K,
        fun _ => o_pairsAnew hA hW hR hS K,
        fun _ => o_uncommitted hA hW hR hS K,
        fun _ => ⟨i + 1, hW.arg hi hN 1 (by omega), i + 2, hW.arg hi hN 2 (by omega), i + 3, hW.arg hi hN 3 (by omega), by rw [s1, s2, s3]; exact o_result hA hW hi hN hR hS K⟩,
        fun _ => ⟨i + 1, hW.arg hi hN 1 (by omega), i + 2, hW.arg hi hN 2 (by omega), i + 3, hW.arg hi hN 3 (by omega), by rw [s1, s2, s3]; exact o_resultAnew hA hW hi hN hR hS K⟩, fun h => ⟨op_out h, K G o p x y Jd JK hW hR ⟨by omega, by omega⟩⟩⟩
end LAWL
