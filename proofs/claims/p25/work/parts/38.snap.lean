/-- takeSnapshot's loop: the snapshot's offsets are where the barrier lies -/
theorem c_snap_loop {E : EV} {Post : Res → GH → Prop} {G0 : GH} {o : Nat → Nat} {x ps so ba bt si : Nat} (hw : Wf G0) (hx : gT G0 x = 10) (h579 : gR G0 579 x = some ps) (hps : gT G0 ps = 5) (h256 : gR G0 256 ps = some so) (hso : A3 G0 o ps so) (h582 : gR G0 582 x = some ba) (hba : gT G0 ba = 1) (h0 : gR G0 0 ba = some bt) (hbt : A3 G0 o ba bt) (h581 : gR G0 581 x = some si) (hsi : gT G0 si = 6) (hne : ps ≠ ba) (hox : o x = x) (hosi : o si = si)
    (k : ∀ G1, OnA G0 G1 → Stq [ps] G0 o G1 o → (∀ j, j < 3 → gA G1 so j = gA G0 bt j) → (∀ q j, q ≠ so → gA G1 q j = gA G0 q j) → Post (.inl none) (sI (sI (sI G1 322 si (gI G0 323 si)) 584 x (gI G0 584 x + 1)) 585 x 1)) :
    ∀ (m i : Nat) (G : GH), m + i = 3 → OnA G0 G → Stq [ps] G0 o G o → (∀ j, j < i → gA G so j = gA G0 bt j) → (∀ q j, q ≠ so → gA G q j = gA G0 q j) → J E 9 m_St_takeSnapshot 13 [some (.ref x), some (.int (nI i))] [] G Post := by
  intro m
  have sb : bt ≠ so := fun z => hne (by rw [← hso.2.2, ← z, hbt.2.2])
  induction m with
  | zero =>
    intro i G hmi hO hS hJ hA
    have e : i = 3 := by omega
    rw [e] at hJ ⊢
    obtain ⟨o1, o2, o3, o4, o5, o6⟩ := id hO
    refine wp_St_takeSnapshot_13 x 3 ⟨fun _ => ⟨(o1 _).trans hx, si, (o4 _ _).trans h581, (o1 _).trans hsi, ?_⟩, fun z => absurd (by decide +kernel) z⟩
    rw [o3, o3]
    exact k G hO hS hJ hA
  | succ m ih =>
    intro i G hmi hO hS hJ hA
    have i3 : i < 3 := by omega
    obtain ⟨o1, o2, o3, o4, o5, o6⟩ := id hO
    refine wp_St_takeSnapshot_13 x (nI i) ⟨fun z => absurd z (show ¬ (3 : Int32) ≤ nI i from nI_ge (b := 3) (by omega) (by omega)), fun _ => ⟨(o1 _).trans hx, ps, (o4 _ _).trans h579, (o1 _).trans hps, so, (o4 _ _).trans h256, ba, (o4 _ _).trans h582, (o1 _).trans hba, bt, (o4 _ _).trans h0, Or.inl ((o1 _).trans hbt.1), i, IX.nI (by rw [o2, hbt.2.1]; exact i3) (by rw [o2, hbt.2.1]; omega), (o1 _).trans hso.1, i, IX.nI (by rw [o2, hso.2.1]; exact i3) (by rw [o2, hso.2.1]; omega), ?_⟩⟩
    rw [nI_1]
    refine ih (i + 1) _ (by omega) ⟨o1, o2, o3, o4, o5, o6⟩ (hS.wA (fun _ => by rw [hso.2.2]; exact in1)) (fun j hj => ?_) (fun q j hq => ?_)
    · by_cases c : j = i
      · rw [c, gA_sA, if_pos ⟨rfl, rfl⟩]; exact hA bt i sb
      · rw [gA_sA, if_neg (fun z => c z.2)]; exact hJ j (by omega)
    · rw [gA_sA, if_neg (fun z => hq z.1)]; exact hA q j hq
