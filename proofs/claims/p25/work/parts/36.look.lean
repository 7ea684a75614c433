/-- lookAtWatermark's loop: is a source active, and the least mark -/
def lwA (idl mkf : Nat → Int32) : Nat → Nat → Int32 → Int32 → Int32 × Int32
  | 0, _, a, l => (a, l)
  | m + 1, i, a, l => if idl i = 0 then lwA idl mkf m (i + 1) 1 (if a = 0 then mkf i else if mkf i < l then mkf i else l) else lwA idl mkf m (i + 1) a l
theorem c_look_loop {E : EV} {G : GH} {Post : Res → GH → Prop} {x sr pn ng : Nat} {sc : Nat → Nat} {idl mkf : Nat → Int32} (hx : gT G x = 10) (h577 : gR G 577 x = some sr) (hsr : gT G sr = 24) (hsn : gN G sr = 3) (hso : ∀ s, s < 3 → gO G sr s = some (sc s) ∧ gT G (sc s) = 7 ∧ gI G 386 (sc s) = idl s) (h578 : gR G 578 x = some pn) (hpn : gT G pn = 5) (h258 : gR G 258 pn = some ng) (hng : gT G ng = 20) (hnn : gN G ng = 3)
    (hmk : ∀ s, s < 3 → (if (-1 : Int32) < gA G ng s - gI G 385 (sc s) then gA G ng s - gI G 385 (sc s) else -1) = mkf s)
    (k : J E 9 m_St_lookAtWatermark 6 [some (.ref x), some (.int (lwA idl mkf 3 0 0 (-1)).1), some (.int (lwA idl mkf 3 0 0 (-1)).2), some (.int 3), none] [] G Post) :
    ∀ (m i : Nat) (a l : Int32), m + i = 3 → lwA idl mkf m i a l = lwA idl mkf 3 0 0 (-1) → J E 9 m_St_lookAtWatermark 6 [some (.ref x), some (.int a), some (.int l), some (.int (nI i)), none] [] G Post := by
  intro m
  induction m with
  | zero =>
    intro i a l hmi he
    have e : i = 3 := by omega
    have h1 : (a, l) = lwA idl mkf 3 0 0 (-1) := he
    rw [← h1] at k
    rw [e]
    exact k
  | succ m ih =>
    intro i a l hmi he
    have i3 : i < 3 := by omega
    obtain ⟨s1, s2, s3⟩ := hso i i3
    have he' : (if idl i = 0 then lwA idl mkf m (i + 1) 1 (if a = 0 then mkf i else if mkf i < l then mkf i else l) else lwA idl mkf m (i + 1) a l) = lwA idl mkf 3 0 0 (-1) := he
    refine wp_St_lookAtWatermark_6 x a l (nI i) ⟨fun z => absurd z (show ¬ (3 : Int32) ≤ nI i from nI_ge (b := 3) (by omega) (by omega)), fun _ => ⟨hx, sr, h577, Or.inr hsr, i, IX.nI (by omega) (by omega), sc i, s1, s2, ?_⟩⟩
    rw [s3, nI_1]
    refine ⟨fun c => ih (i + 1) a l (by omega) (by rw [if_neg c] at he'; exact he'), fun c => ⟨pn, h578, hpn, ng, h258, Or.inl hng, i, IX.nI (by omega) (by omega), ?_⟩⟩
    rw [hmk i i3]
    rw [if_pos c] at he'
    refine ⟨fun c2 => ih (i + 1) 1 _ (by omega) (by rw [if_pos c2] at he'; exact he'), fun c2 => ih (i + 1) 1 _ (by omega) (by rw [if_neg c2] at he'; exact he')⟩
/-- the watermark behind it -/
def lwM (mark : Int32) (al : Int32 × Int32) : Int32 := if al.1 = 0 then mark else if mark < al.2 then al.2 else mark
