section JROWS2
variable {E : EV} {d : Nat} {y : MI} {pc : Nat} {L : List (Option Value)} {st : List Value} {G : GH} {Post : Res → GH → Prop}
/-! branches -/
theorem j_if_eq {x : Int32} {off : Int} {tgt : Nat} (hd : decode y.2.1 pc = .ok (.ifCond .eq off, 3)) (ht : (pc : Int) + off = (tgt : Int)) (kt : x = 0 → J E d y tgt L st G Post) (kf : ¬ x = 0 → J E d y (pc + 3) L st G Post) : J E d y pc L (.int x :: st) G Post := by
  by_cases c : x = 0
  · exact j_step (fun _ _ _ _ _ _ _ _ _ _ _ _ _ _ ls fx _ _ hl _ _ _ _ kk => lv_if_eq fx.1 fx.2.1 hd ht (fun _ => kk ls hl) (fun h => absurd c h)) (kt c)
  · exact j_step (fun _ _ _ _ _ _ _ _ _ _ _ _ _ _ ls fx _ _ hl _ _ _ _ kk => lv_if_eq fx.1 fx.2.1 hd ht (fun h => absurd h c) (fun _ => kk ls hl)) (kf c)
theorem j_if_ne {x : Int32} {off : Int} {tgt : Nat} (hd : decode y.2.1 pc = .ok (.ifCond .ne off, 3)) (ht : (pc : Int) + off = (tgt : Int)) (kt : ¬ x = 0 → J E d y tgt L st G Post) (kf : x = 0 → J E d y (pc + 3) L st G Post) : J E d y pc L (.int x :: st) G Post := by
  by_cases c : x = 0
  · exact j_step (fun _ _ _ _ _ _ _ _ _ _ _ _ _ _ ls fx _ _ hl _ _ _ _ kk => lv_if_ne fx.1 fx.2.1 hd ht (fun h => absurd c h) (fun _ => kk ls hl)) (kf c)
  · exact j_step (fun _ _ _ _ _ _ _ _ _ _ _ _ _ _ ls fx _ _ hl _ _ _ _ kk => lv_if_ne fx.1 fx.2.1 hd ht (fun _ => kk ls hl) (fun h => absurd h c)) (kt c)
theorem j_if_lt {x : Int32} {off : Int} {tgt : Nat} (hd : decode y.2.1 pc = .ok (.ifCond .lt off, 3)) (ht : (pc : Int) + off = (tgt : Int)) (kt : x < 0 → J E d y tgt L st G Post) (kf : ¬ x < 0 → J E d y (pc + 3) L st G Post) : J E d y pc L (.int x :: st) G Post := by
  by_cases c : x < 0
  · exact j_step (fun _ _ _ _ _ _ _ _ _ _ _ _ _ _ ls fx _ _ hl _ _ _ _ kk => lv_if_lt fx.1 fx.2.1 hd ht (fun _ => kk ls hl) (fun h => absurd c h)) (kt c)
  · exact j_step (fun _ _ _ _ _ _ _ _ _ _ _ _ _ _ ls fx _ _ hl _ _ _ _ kk => lv_if_lt fx.1 fx.2.1 hd ht (fun h => absurd h c) (fun _ => kk ls hl)) (kf c)
theorem j_if_ge {x : Int32} {off : Int} {tgt : Nat} (hd : decode y.2.1 pc = .ok (.ifCond .ge off, 3)) (ht : (pc : Int) + off = (tgt : Int)) (kt : 0 ≤ x → J E d y tgt L st G Post) (kf : ¬ 0 ≤ x → J E d y (pc + 3) L st G Post) : J E d y pc L (.int x :: st) G Post := by
  by_cases c : 0 ≤ x
  · exact j_step (fun _ _ _ _ _ _ _ _ _ _ _ _ _ _ ls fx _ _ hl _ _ _ _ kk => lv_if_ge fx.1 fx.2.1 hd ht (fun _ => kk ls hl) (fun h => absurd c h)) (kt c)
  · exact j_step (fun _ _ _ _ _ _ _ _ _ _ _ _ _ _ ls fx _ _ hl _ _ _ _ kk => lv_if_ge fx.1 fx.2.1 hd ht (fun h => absurd h c) (fun _ => kk ls hl)) (kf c)
theorem j_if_gt {x : Int32} {off : Int} {tgt : Nat} (hd : decode y.2.1 pc = .ok (.ifCond .gt off, 3)) (ht : (pc : Int) + off = (tgt : Int)) (kt : 0 < x → J E d y tgt L st G Post) (kf : ¬ 0 < x → J E d y (pc + 3) L st G Post) : J E d y pc L (.int x :: st) G Post := by
  by_cases c : 0 < x
  · exact j_step (fun _ _ _ _ _ _ _ _ _ _ _ _ _ _ ls fx _ _ hl _ _ _ _ kk => lv_if_gt fx.1 fx.2.1 hd ht (fun _ => kk ls hl) (fun h => absurd c h)) (kt c)
  · exact j_step (fun _ _ _ _ _ _ _ _ _ _ _ _ _ _ ls fx _ _ hl _ _ _ _ kk => lv_if_gt fx.1 fx.2.1 hd ht (fun h => absurd h c) (fun _ => kk ls hl)) (kf c)
theorem j_icmp_eq {x z : Int32} {off : Int} {tgt : Nat} (hd : decode y.2.1 pc = .ok (.if_icmp .eq off, 3)) (ht : (pc : Int) + off = (tgt : Int)) (kt : x = z → J E d y tgt L st G Post) (kf : ¬ x = z → J E d y (pc + 3) L st G Post) : J E d y pc L (.int z :: .int x :: st) G Post := by
  by_cases c : x = z
  · exact j_step (fun _ _ _ _ _ _ _ _ _ _ _ _ _ _ ls fx _ _ hl _ _ _ _ kk => lv_icmp_eq fx.1 fx.2.1 hd ht (fun _ => kk ls hl) (fun h => absurd c h)) (kt c)
  · exact j_step (fun _ _ _ _ _ _ _ _ _ _ _ _ _ _ ls fx _ _ hl _ _ _ _ kk => lv_icmp_eq fx.1 fx.2.1 hd ht (fun h => absurd h c) (fun _ => kk ls hl)) (kf c)
theorem j_icmp_ne {x z : Int32} {off : Int} {tgt : Nat} (hd : decode y.2.1 pc = .ok (.if_icmp .ne off, 3)) (ht : (pc : Int) + off = (tgt : Int)) (kt : ¬ x = z → J E d y tgt L st G Post) (kf : x = z → J E d y (pc + 3) L st G Post) : J E d y pc L (.int z :: .int x :: st) G Post := by
  by_cases c : x = z
  · exact j_step (fun _ _ _ _ _ _ _ _ _ _ _ _ _ _ ls fx _ _ hl _ _ _ _ kk => lv_icmp_ne fx.1 fx.2.1 hd ht (fun h => absurd c h) (fun _ => kk ls hl)) (kf c)
  · exact j_step (fun _ _ _ _ _ _ _ _ _ _ _ _ _ _ ls fx _ _ hl _ _ _ _ kk => lv_icmp_ne fx.1 fx.2.1 hd ht (fun _ => kk ls hl) (fun h => absurd h c)) (kt c)
theorem j_icmp_lt {x z : Int32} {off : Int} {tgt : Nat} (hd : decode y.2.1 pc = .ok (.if_icmp .lt off, 3)) (ht : (pc : Int) + off = (tgt : Int)) (kt : x < z → J E d y tgt L st G Post) (kf : ¬ x < z → J E d y (pc + 3) L st G Post) : J E d y pc L (.int z :: .int x :: st) G Post := by
  by_cases c : x < z
  · exact j_step (fun _ _ _ _ _ _ _ _ _ _ _ _ _ _ ls fx _ _ hl _ _ _ _ kk => lv_icmp_lt fx.1 fx.2.1 hd ht (fun _ => kk ls hl) (fun h => absurd c h)) (kt c)
  · exact j_step (fun _ _ _ _ _ _ _ _ _ _ _ _ _ _ ls fx _ _ hl _ _ _ _ kk => lv_icmp_lt fx.1 fx.2.1 hd ht (fun h => absurd h c) (fun _ => kk ls hl)) (kf c)
theorem j_icmp_ge {x z : Int32} {off : Int} {tgt : Nat} (hd : decode y.2.1 pc = .ok (.if_icmp .ge off, 3)) (ht : (pc : Int) + off = (tgt : Int)) (kt : z ≤ x → J E d y tgt L st G Post) (kf : ¬ z ≤ x → J E d y (pc + 3) L st G Post) : J E d y pc L (.int z :: .int x :: st) G Post := by
  by_cases c : z ≤ x
  · exact j_step (fun _ _ _ _ _ _ _ _ _ _ _ _ _ _ ls fx _ _ hl _ _ _ _ kk => lv_icmp_ge fx.1 fx.2.1 hd ht (fun _ => kk ls hl) (fun h => absurd c h)) (kt c)
  · exact j_step (fun _ _ _ _ _ _ _ _ _ _ _ _ _ _ ls fx _ _ hl _ _ _ _ kk => lv_icmp_ge fx.1 fx.2.1 hd ht (fun h => absurd h c) (fun _ => kk ls hl)) (kf c)
theorem j_icmp_gt {x z : Int32} {off : Int} {tgt : Nat} (hd : decode y.2.1 pc = .ok (.if_icmp .gt off, 3)) (ht : (pc : Int) + off = (tgt : Int)) (kt : z < x → J E d y tgt L st G Post) (kf : ¬ z < x → J E d y (pc + 3) L st G Post) : J E d y pc L (.int z :: .int x :: st) G Post := by
  by_cases c : z < x
  · exact j_step (fun _ _ _ _ _ _ _ _ _ _ _ _ _ _ ls fx _ _ hl _ _ _ _ kk => lv_icmp_gt fx.1 fx.2.1 hd ht (fun _ => kk ls hl) (fun h => absurd c h)) (kt c)
  · exact j_step (fun _ _ _ _ _ _ _ _ _ _ _ _ _ _ ls fx _ _ hl _ _ _ _ kk => lv_icmp_gt fx.1 fx.2.1 hd ht (fun h => absurd h c) (fun _ => kk ls hl)) (kf c)
theorem j_icmp_le {x z : Int32} {off : Int} {tgt : Nat} (hd : decode y.2.1 pc = .ok (.if_icmp .le off, 3)) (ht : (pc : Int) + off = (tgt : Int)) (kt : x ≤ z → J E d y tgt L st G Post) (kf : ¬ x ≤ z → J E d y (pc + 3) L st G Post) : J E d y pc L (.int z :: .int x :: st) G Post := by
  by_cases c : x ≤ z
  · exact j_step (fun _ _ _ _ _ _ _ _ _ _ _ _ _ _ ls fx _ _ hl _ _ _ _ kk => lv_icmp_le fx.1 fx.2.1 hd ht (fun _ => kk ls hl) (fun h => absurd c h)) (kt c)
  · exact j_step (fun _ _ _ _ _ _ _ _ _ _ _ _ _ _ ls fx _ _ hl _ _ _ _ kk => lv_icmp_le fx.1 fx.2.1 hd ht (fun h => absurd h c) (fun _ => kk ls hl)) (kf c)
theorem j_ifnull {x : Option Nat} {v : Value} {off : Int} {tgt : Nat} (hv : v = va_rf x) (hd : decode y.2.1 pc = .ok (.ifnull off, 3)) (ht : (pc : Int) + off = (tgt : Int)) (kt : x = none → J E d y tgt L st G Post) (kf : ∀ a, x = some a → J E d y (pc + 3) L st G Post) : J E d y pc L (v :: st) G Post := by
  subst hv
  cases x with
  | none => exact j_step (fun _ _ _ _ _ _ _ _ _ _ _ _ _ _ ls fx _ _ hl _ _ _ _ kk => lv_ifnullN fx.1 fx.2.1 hd ht (kk ls hl)) (kt rfl)
  | some a => exact j_step (fun _ _ _ _ _ _ _ _ _ _ _ _ _ _ ls fx _ _ hl _ _ _ _ kk => lv_ifnull fx.1 fx.2.1 hd (kk ls hl)) (kf a rfl)
theorem j_ifnonnull {x : Option Nat} {v : Value} {off : Int} {tgt : Nat} (hv : v = va_rf x) (hd : decode y.2.1 pc = .ok (.ifnonnull off, 3)) (ht : (pc : Int) + off = (tgt : Int)) (kt : ∀ a, x = some a → J E d y tgt L st G Post) (kf : x = none → J E d y (pc + 3) L st G Post) : J E d y pc L (v :: st) G Post := by
  subst hv
  cases x with
  | none => exact j_step (fun _ _ _ _ _ _ _ _ _ _ _ _ _ _ ls fx _ _ hl _ _ _ _ kk => lv_ifnonnullN fx.1 fx.2.1 hd (kk ls hl)) (kf rfl)
  | some a => exact j_step (fun _ _ _ _ _ _ _ _ _ _ _ _ _ _ ls fx _ _ hl _ _ _ _ kk => lv_ifnonnull fx.1 fx.2.1 hd ht (kk ls hl)) (kt a rfl)
theorem j_acmp_eq {a b : Nat} {off : Int} {tgt : Nat} (hd : decode y.2.1 pc = .ok (.if_acmp .eq off, 3)) (ht : (pc : Int) + off = (tgt : Int)) (kt : a = b → J E d y tgt L st G Post) (kf : ¬ a = b → J E d y (pc + 3) L st G Post) : J E d y pc L (.ref b :: .ref a :: st) G Post := by
  by_cases c : a = b
  · exact j_step (fun _ _ _ _ _ _ _ _ _ _ _ _ _ _ ls fx _ _ hl _ _ _ _ kk => lv_acmp_eq (rx := some a) (ry := some b) fx.1 fx.2.1 hd ht (fun _ => kk ls hl) (fun h => absurd (congrArg some c) h)) (kt c)
  · exact j_step (fun _ _ _ _ _ _ _ _ _ _ _ _ _ _ ls fx _ _ hl _ _ _ _ kk => lv_acmp_eq (rx := some a) (ry := some b) fx.1 fx.2.1 hd ht (fun h => absurd (Option.some.inj h) c) (fun _ => kk ls hl)) (kf c)
theorem j_acmp_ne {a b : Nat} {off : Int} {tgt : Nat} (hd : decode y.2.1 pc = .ok (.if_acmp .ne off, 3)) (ht : (pc : Int) + off = (tgt : Int)) (kt : ¬ a = b → J E d y tgt L st G Post) (kf : a = b → J E d y (pc + 3) L st G Post) : J E d y pc L (.ref b :: .ref a :: st) G Post := by
  by_cases c : a = b
  · exact j_step (fun _ _ _ _ _ _ _ _ _ _ _ _ _ _ ls fx _ _ hl _ _ _ _ kk => lv_acmp_ne (rx := some a) (ry := some b) fx.1 fx.2.1 hd ht (fun h => absurd (congrArg some c) h) (fun _ => kk ls hl)) (kf c)
  · exact j_step (fun _ _ _ _ _ _ _ _ _ _ _ _ _ _ ls fx _ _ hl _ _ _ _ kk => lv_acmp_ne (rx := some a) (ry := some b) fx.1 fx.2.1 hd ht (fun _ => kk ls hl) (fun h => absurd (Option.some.inj h) c)) (kt c)
theorem j_lcmp {a b : Int64} (hd : decode y.2.1 pc = .ok (.lcmp, 1)) (k : J E d y (pc + 1) L (.int (lg_cmp a b) :: st) G Post) : J E d y pc L (.long b :: .long a :: st) G Post :=
  j_step (fun _ _ _ _ _ _ _ _ _ _ _ _ _ _ ls fx _ _ hl _ _ _ _ kk => W.lcmp fx.1 fx.2.1 hd (kk ls hl)) k
theorem j_tableOut {dflt lo hi : Int} {offs : Array Int} {len tgt : Nat} {x : Int32} (hd : decode y.2.1 pc = .ok (.tableswitch dflt lo hi offs, len)) (h : x.toInt < lo ∨ hi < x.toInt) (ht : (pc : Int) + dflt = (tgt : Int)) (k : J E d y tgt L st G Post) : J E d y pc L (.int x :: st) G Post :=
  j_step (fun _ _ _ _ _ _ _ _ _ _ _ _ _ _ ls fx _ _ hl _ _ _ _ kk => lv_tableOut fx.1 fx.2.1 hd h ht (kk ls hl)) k
theorem j_tableIn {dflt lo hi off : Int} {offs : Array Int} {len tgt : Nat} {x : Int32} (hd : decode y.2.1 pc = .ok (.tableswitch dflt lo hi offs, len)) (h1 : ¬ x.toInt < lo) (h2 : ¬ hi < x.toInt) (ho : offs[(x.toInt - lo).toNat]? = some off) (ht : (pc : Int) + off = (tgt : Int)) (k : J E d y tgt L st G Post) : J E d y pc L (.int x :: st) G Post :=
  j_step (fun _ _ _ _ _ _ _ _ _ _ _ _ _ _ ls fx _ _ hl _ _ _ _ kk => lv_tableIn fx.1 fx.2.1 hd h1 h2 ho ht (kk ls hl)) k
end JROWS2
/-! FIELDS. What a pool entry of a field says: read, written, written while final -/
def FE (own : String) (i ci k : Nat) : Prop := ∃ (C : String) (T : u_T) (N : Nat) (ref : String), kcl[ci]? = some (C, T, N) ∧ k < N ∧ Cond.fieldLink own i ref (T k).2.1 (T k).2.2.1 ∈ gw ∧ (ref = (T k).1 ∨ Cond.sameField ref (T k).1 (T k).2.1 (T k).2.2.1 ∈ gw)
def FW (own : String) (i ci k : Nat) : Prop := ∃ (C : String) (T : u_T) (N : Nat) (ref : String), kcl[ci]? = some (C, T, N) ∧ k < N ∧ Cond.fieldLink own i ref (T k).2.1 (T k).2.2.1 ∈ gw ∧ (ref = (T k).1 ∨ Cond.sameField ref (T k).1 (T k).2.1 (T k).2.2.1 ∈ gw) ∧ (T k).2.2.2 = false
def FF (own : String) (i ci k : Nat) : Prop := ∃ (C : String) (T : u_T) (N : Nat), kcl[ci]? = some (C, T, N) ∧ k < N ∧ Cond.fieldLink own i own (T k).2.1 (T k).2.2.1 ∈ gw ∧ (T k).1 = own ∧ (T k).2.2.2 = true
theorem fe_same {args : Array Value} {s : State} {T : u_T} {k : Nat} {ref : String} (hts : ∀ w ∈ gw, w.before args s = true) (h : ref = (T k).1 ∨ Cond.sameField ref (T k).1 (T k).2.1 (T k).2.2.1 ∈ gw) : ∀ x, s.fieldFound? (T k).1 (T k).2.1 (T k).2.2.1 = some x → s.fieldFound? ref (T k).2.1 (T k).2.2.1 = some x := by
  rcases h with h | h
  · rw [h]; exact fun _ z => z
  · exact fun x z => u_same (hts _ h) x z
section WROWS
variable {E : EV} {d : Nat} {y : MI} {pc : Nat} {st : List Value} {G G1 : GH} {a ci k i : Nat} {v : Value}
variable {p : Program} {e : Env} {R : Room} {s : State} {m : MethodId} {args : Array Value} {below : List Frame} {meth : Method} {c : Code} {H : Heap} {locs : List Loc} {cells slots : Nat} {Q : State → Prop} {ls : Array Slot}
theorem w_get (fx : FX E y p s m args meth c) (hg : GP E G H) (fe : FE y.1.cls i ci k) (ht : gT G a = ci + 1) (hd : decode y.2.1 pc = .ok (.getfield i, 3))
    (kk : W p (eL E) e R s m args below meth c H locs cells slots Q (F0 m (pc + 3) ls (fv G ci k a :: st))) : W p (eL E) e R s m args below meth c H locs cells slots Q (F0 m pc ls (.ref a :: st)) := by
  obtain ⟨C, T, N, ref, hc, hk, hlink, hsame⟩ := fe
  obtain ⟨hx, hb, -, -, hown, hts, -, -, -, hKS, -⟩ := fx
  obtain ⟨q1, q2, q3, q4, q5⟩ := kcl_ok ci _ hc
  exact va_get (D := eD E) (ci := ci) (C := C) (T := T) (N := N) hx hb hts q1 hown hKS.2.1 (hg.one (cell_obj ht q5)) 0 rfl hc k hk (hts _ hlink) (fe_same hts hsame) (flds_at (by rw [← q4]; exact hk)) hd kk
theorem ob_upd {C : String} {T : u_T} {N : Nat} {s : State} {args : Array Value} {c1 : Cell} {H' : Heap} {tys : List (ClassId × FieldType)} (hts : ∀ w ∈ gw, w.before args s = true) (hKS : va_K (eD E) kcl tys s) (hc : kcl[ci]? = some (C, T, N)) (hk : k < N) (q2 : c1.cls = (eD E).1 ci) (q3 : c1.vm = .none) (q4 : ∀ k, k < N → c1.slots[(eD E).2 ci k]? = some (vp_V (flds G ci a) k)) (e1 : H'[a]? = some (c1.setSlot ((eD E).2 ci k) v)) (hv : ∀ j, j < nF ci → fv G1 ci j a = if j = k then v else fv G ci j a) : va_at (eD E) kcl (a, .inr (ci, flds G1 ci a)) H' := by
  obtain ⟨z1, z2, z3, z4, z5⟩ := kcl_ok ci _ hc
  have hap := va_apart (own := C) hts z1 (tyF ci) z3 z2 hKS hc
  refine ⟨_, hc, t_OB.to (V := updV (vp_V (flds G ci a)) k v) ⟨_, e1, q2, q3, t_set q4 hap hk v⟩ (fun j hj => ?_)⟩
  have hj' : j < nF ci := by rw [← z4]; exact hj
  rw [flds_V hj', hv j hj']
  unfold updV
  by_cases hjk : j = k
  · rw [if_pos hjk, if_pos hjk]
  · rw [if_neg hjk, if_neg hjk, flds_V hj']
theorem w_put (fx : FX E y p s m args meth c) (hg : GP E G H) (hS : va_S (AR E) s.heap H locs) (fw : FW y.1.cls i ci k) (ht : gT G a = ci + 1) (hn : narrow (tyF ci k) v = v) (hfit : fits (tyF ci k) v = true)
    (hz : gz G1 = gz G) (hT : ∀ q, gT G1 q = gT G q) (hsm : ∀ q, q ≠ a → Sm G G1 q) (hv : ∀ j, j < nF ci → fv G1 ci j a = if j = k then v else fv G ci j a) (hd : decode y.2.1 pc = .ok (.putfield i, 3))
    (kk : ∀ H' locs', GP E G1 H' → va_S (AR E) s.heap H' locs' → W p (eL E) e R s m args below meth c H' locs' cells slots Q (F0 m (pc + 3) ls st)) : W p (eL E) e R s m args below meth c H locs cells slots Q (F0 m pc ls (v :: .ref a :: st)) := by
  obtain ⟨C, T, N, ref, hc, hk, hlink, hsame, hfin⟩ := fw
  obtain ⟨hx, hb, -, -, hown, hts, -, -, -, hKS, -⟩ := fx
  obtain ⟨z1, z2, z3, z4, z5⟩ := kcl_ok ci _ hc
  obtain ⟨r, h1, c1, q1, q2, q3, q4⟩ := hg.2.2.2.2 a _ (cell_obj ht z5)
  have hr : r = (C, T, N) := Option.some.inj (h1.symm.trans hc)
  subst hr
  obtain ⟨hSl, hfc, kC, hkC, hkind⟩ := hKS.2.1.1 ci _ hc
  obtain ⟨cf, kf, fi, f, hi, hsl⟩ := hSl k hk
  have hlay := hts _ (z1 _ (u_in_lay hk))
  unfold u_lay at hlay
  rw [if_neg (by rw [hfin]; decide)] at hlay
  have hst := (u_facts hfc hkC (u_lays hts z1 hk) hi).1
  have h6 := u_store hfc hkC hkind hlay hi (z3 k hk) hn hfit
  refine W.putK hx hb (f := f) ⟨hown, hts _ hlink, ⟨_, _, _, fe_same hts hsame _ hi⟩, hst⟩ (by rw [q2]; exact h6) q1 q3 (by rw [hsl]; exact k2_hasslot (q4 k hk)) rfl rfl hd fun H' e1 e2 e3 => ?_
  rw [hsl] at e1 ⊢
  refine kk H' _ (hg.upd (a := a) e2 hz e3 hT hsm (fun e9 he9 => ?_) (by omega)) (hS.put e2 e3 (hg.2.2.1 a (by omega) (by omega)))
  rw [cell_obj (by rw [hT]; exact ht) z5] at he9
  cases he9
  exact ob_upd hts hKS.2.1 hc hk q2 q3 q4 e1 hv
theorem w_putF (fx : FX E y p s m args meth c) (hg : GP E G H) (hS : va_S (AR E) s.heap H locs) (fw : FF y.1.cls i ci k) (hin : y.1.name = "<init>") (ht : gT G a = ci + 1) (hn : narrow (tyF ci k) v = v) (hfit : fits (tyF ci k) v = true)
    (hz : gz G1 = gz G) (hT : ∀ q, gT G1 q = gT G q) (hsm : ∀ q, q ≠ a → Sm G G1 q) (hv : ∀ j, j < nF ci → fv G1 ci j a = if j = k then v else fv G ci j a) (hd : decode y.2.1 pc = .ok (.putfield i, 3))
    (kk : ∀ H' locs', GP E G1 H' → va_S (AR E) s.heap H' locs' → W p (eL E) e R s m args below meth c H' locs' cells slots Q (F0 m (pc + 3) ls st)) : W p (eL E) e R s m args below meth c H locs cells slots Q (F0 m pc ls (v :: .ref a :: st)) := by
  obtain ⟨C, T, N, hc, hk, hlink, hdecl, hfin⟩ := fw
  obtain ⟨hx, hb, -, -, hown, hts, -, hname, -, hKS, -⟩ := fx
  obtain ⟨z1, z2, z3, z4, z5⟩ := kcl_ok ci _ hc
  obtain ⟨r, h1, c1, q1, q2, q3, q4⟩ := hg.2.2.2.2 a _ (cell_obj ht z5)
  have hr : r = (C, T, N) := Option.some.inj (h1.symm.trans hc)
  subst hr
  obtain ⟨hSl, hfc, kC, hkC, hkind⟩ := hKS.2.1.1 ci _ hc
  obtain ⟨cf, kf, fi, f, hi, hsl⟩ := hSl k hk
  have hlay := hts _ (z1 _ (u_in_lay hk))
  unfold u_lay at hlay
  rw [if_pos hfin] at hlay
  have hst := (u_facts hfc hkC (u_lays hts z1 hk) hi).1
  have hcf : m.cls = cf := by
    obtain ⟨_, _, c', _, _, _, -, -, hf', -, -, -, hown2, -⟩ := Cond.laysFinal_spec hlay
    have e1 : c' = cf := by have := hi.symm.trans hf'; simp at this; exact this.1.symm
    rw [hdecl] at hown2
    rw [← e1]; exact Option.some.inj (hown.symm.trans hown2)
  have h6 := u_fits hfc hkC hkind (Or.inr hlay) hi (z3 k hk) hn hfit
  refine W.putFinK hx hb hown (hts _ hlink) (by rw [← hdecl]; exact hi) hst hcf (hname.trans hin) (by rw [q2]; exact h6) q1 q3 (by rw [hsl]; exact k2_hasslot (q4 k hk)) rfl rfl hd fun H' e1 e2 e3 => ?_
  rw [hsl] at e1 ⊢
  refine kk H' _ (hg.upd (a := a) e2 hz e3 hT hsm (fun e9 he9 => ?_) (by omega)) (hS.put e2 e3 (hg.2.2.1 a (by omega) (by omega)))
  rw [cell_obj (by rw [hT]; exact ht) z5] at he9
  cases he9
  exact ob_upd hts hKS.2.1 hc hk q2 q3 q4 e1 hv
end WROWS
theorem fv_int {G : GH} {ci k a : Nat} (h : isR ci k = false) : fv G ci k a = .int (gI G (64 * ci + k) a) := by unfold fv; rw [h]; rfl
theorem fv_ref {G : GH} {ci k a : Nat} (h : isR ci k = true) : fv G ci k a = va_rf (gR G (64 * ci + k) a) := by unfold fv; rw [h]; rfl
theorem fv_sI {G : GH} {ci k a : Nat} {v : Int32} (hr : isR ci k = false) (j : Nat) : fv (sI G (64 * ci + k) a v) ci j a = if j = k then .int v else fv G ci j a := by
  by_cases hj : j = k
  · subst hj
    rw [if_pos rfl, fv_int hr]
    show Value.int (up2 _ _ _ _ _ _) = _
    unfold up2
    rw [if_pos ⟨rfl, rfl⟩]
  · rw [if_neg hj]
    unfold fv
    have e : gI (sI G (64 * ci + k) a v) (64 * ci + j) a = gI G (64 * ci + j) a := if_neg (fun z => hj (by omega))
    rw [e]
    rfl
theorem fv_sR {G : GH} {ci k a : Nat} {v : Option Nat} (hr : isR ci k = true) (j : Nat) : fv (sR G (64 * ci + k) a v) ci j a = if j = k then va_rf v else fv G ci j a := by
  by_cases hj : j = k
  · subst hj
    rw [if_pos rfl, fv_ref hr]
    show va_rf (up2 _ _ _ _ _ _) = _
    unfold up2
    rw [if_pos ⟨rfl, rfl⟩]
  · rw [if_neg hj]
    unfold fv
    have e : gR (sR G (64 * ci + k) a v) (64 * ci + j) a = gR G (64 * ci + j) a := if_neg (fun z => hj (by omega))
    rw [e]
    rfl
theorem ref_fits {t : FieldType} (h : isRt t = true) (r : Option Nat) : narrow t (va_rf r) = va_rf r ∧ fits t (va_rf r) = true := by
  cases t <;> cases r <;> first | exact ⟨rfl, rfl⟩ | (simp [isRt] at h)
section JROWS3
variable {E : EV} {d : Nat} {y : MI} {pc : Nat} {L : List (Option Value)} {st : List Value} {G : GH} {Post : Res → GH → Prop} {a ci k i f : Nat}
theorem j_getI (fe : FE y.1.cls i ci k) (hr : isR ci k = false) (hf : 64 * ci + k = f) (ht : gT G a = ci + 1) (hd : decode y.2.1 pc = .ok (.getfield i, 3)) (kk : J E d y (pc + 3) L (.int (gI G f a) :: st) G Post) : J E d y pc L (.ref a :: st) G Post := by
  subst hf
  exact j_step (fun _ _ _ _ _ _ _ _ _ _ _ _ _ _ ls fx hg _ hl _ _ _ _ kk => w_get fx hg fe ht hd (by rw [fv_int hr]; exact kk ls hl)) kk
theorem j_getQ (fe : FE y.1.cls i ci k) (hr : isR ci k = true) (hf : 64 * ci + k = f) (ht : gT G a = ci + 1) (hd : decode y.2.1 pc = .ok (.getfield i, 3)) (kk : J E d y (pc + 3) L (va_rf (gR G f a) :: st) G Post) : J E d y pc L (.ref a :: st) G Post := by
  subst hf
  exact j_step (fun _ _ _ _ _ _ _ _ _ _ _ _ _ _ ls fx hg _ hl _ _ _ _ kk => w_get fx hg fe ht hd (by rw [fv_ref hr]; exact kk ls hl)) kk
theorem j_getR {b : Nat} (fe : FE y.1.cls i ci k) (hr : isR ci k = true) (hf : 64 * ci + k = f) (ht : gT G a = ci + 1) (hb : gR G f a = some b) (hd : decode y.2.1 pc = .ok (.getfield i, 3)) (kk : J E d y (pc + 3) L (.ref b :: st) G Post) : J E d y pc L (.ref a :: st) G Post :=
  j_getQ fe hr hf ht hd (by rw [hb]; exact kk)
theorem j_putI {v : Int32} (fw : FW y.1.cls i ci k) (hr : tyF ci k = .int) (hf : 64 * ci + k = f) (ht : gT G a = ci + 1) (hd : decode y.2.1 pc = .ok (.putfield i, 3)) (kk : J E d y (pc + 3) L st (sI G f a v) Post) : J E d y pc L (.int v :: .ref a :: st) G Post := by
  subst hf
  exact j_write (G1 := sI G (64 * ci + k) a v) rfl rfl (fun _ _ _ _ _ _ _ _ _ _ _ _ _ _ ls fx hg hS hl _ _ kk => w_put (G1 := sI G (64 * ci + k) a v) fx hg hS fw ht (by rw [hr]; rfl) (by rw [hr]; rfl) rfl (fun _ => rfl) (fun q hq => sI_sm hq) (fun j _ => fv_sI (by unfold isR; rw [hr]; rfl) j) hd (fun H' locs' h1 h2 => kk H' locs' h1 h2 ls hl)) kk
theorem j_putZ {v : Int32} (fw : FW y.1.cls i ci k) (hr : tyF ci k = .boolean) (hf : 64 * ci + k = f) (ht : gT G a = ci + 1) (hv : v = 0 ∨ v = 1) (hd : decode y.2.1 pc = .ok (.putfield i, 3)) (kk : J E d y (pc + 3) L st (sI G f a v) Post) : J E d y pc L (.int v :: .ref a :: st) G Post := by
  subst hf
  exact j_write (G1 := sI G (64 * ci + k) a v) rfl rfl (fun _ _ _ _ _ _ _ _ _ _ _ _ _ _ ls fx hg hS hl _ _ kk => w_put (G1 := sI G (64 * ci + k) a v) fx hg hS fw ht (by rw [hr]; rcases hv with rfl | rfl <;> rfl) (by rw [hr]; rcases hv with rfl | rfl <;> rfl) rfl (fun _ => rfl) (fun q hq => sI_sm hq) (fun j _ => fv_sI (by unfold isR; rw [hr]; rfl) j) hd (fun H' locs' h1 h2 => kk H' locs' h1 h2 ls hl)) kk
theorem j_putR {r : Option Nat} {v : Value} (hv : v = va_rf r) (fw : FW y.1.cls i ci k) (hr : isR ci k = true) (hf : 64 * ci + k = f) (ht : gT G a = ci + 1) (hd : decode y.2.1 pc = .ok (.putfield i, 3)) (kk : J E d y (pc + 3) L st (sR G f a r) Post) : J E d y pc L (v :: .ref a :: st) G Post := by
  subst hf; subst hv
  exact j_write (G1 := sR G (64 * ci + k) a r) rfl rfl (fun _ _ _ _ _ _ _ _ _ _ _ _ _ _ ls fx hg hS hl _ _ kk => w_put (G1 := sR G (64 * ci + k) a r) fx hg hS fw ht (ref_fits hr r).1 (ref_fits hr r).2 rfl (fun _ => rfl) (fun q hq => sR_sm hq) (fun j _ => fv_sR hr j) hd (fun H' locs' h1 h2 => kk H' locs' h1 h2 ls hl)) kk
theorem j_putFR {r : Option Nat} {v : Value} (hv : v = va_rf r) (fw : FF y.1.cls i ci k) (hin : y.1.name = "<init>") (hr : isR ci k = true) (hf : 64 * ci + k = f) (ht : gT G a = ci + 1) (hd : decode y.2.1 pc = .ok (.putfield i, 3)) (kk : J E d y (pc + 3) L st (sR G f a r) Post) : J E d y pc L (v :: .ref a :: st) G Post := by
  subst hf; subst hv
  exact j_write (G1 := sR G (64 * ci + k) a r) rfl rfl (fun _ _ _ _ _ _ _ _ _ _ _ _ _ _ ls fx hg hS hl _ _ kk => w_putF (G1 := sR G (64 * ci + k) a r) fx hg hS fw hin ht (ref_fits hr r).1 (ref_fits hr r).2 rfl (fun _ => rfl) (fun q hq => sR_sm hq) (fun j _ => fv_sR hr j) hd (fun H' locs' h1 h2 => kk H' locs' h1 h2 ls hl)) kk
theorem j_putFI {v : Int32} (fw : FF y.1.cls i ci k) (hin : y.1.name = "<init>") (hr : tyF ci k = .int) (hf : 64 * ci + k = f) (ht : gT G a = ci + 1) (hd : decode y.2.1 pc = .ok (.putfield i, 3)) (kk : J E d y (pc + 3) L st (sI G f a v) Post) : J E d y pc L (.int v :: .ref a :: st) G Post := by
  subst hf
  exact j_write (G1 := sI G (64 * ci + k) a v) rfl rfl (fun _ _ _ _ _ _ _ _ _ _ _ _ _ _ ls fx hg hS hl _ _ kk => w_putF (G1 := sI G (64 * ci + k) a v) fx hg hS fw hin ht (by rw [hr]; rfl) (by rw [hr]; rfl) rfl (fun _ => rfl) (fun q hq => sI_sm hq) (fun j _ => fv_sI (by unfold isR; rw [hr]; rfl) j) hd (fun H' locs' h1 h2 => kk H' locs' h1 h2 ls hl)) kk
end JROWS3
