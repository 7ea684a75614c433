/-! more rows, for what the walker prints -/
theorem gI_sI_eq {G : GH} {f a : Nat} {v : Int32} : gI (sI G f a v) f a = v := if_pos ⟨rfl, rfl⟩
theorem gR_sR_eq {G : GH} {f a : Nat} {v : Option Nat} : gR (sR G f a v) f a = v := if_pos ⟨rfl, rfl⟩
theorem al_T_new {G : GH} {t n : Nat} : gT (al G t n) (gz G) = t := if_pos rfl
theorem cat_n : ∀ v ∈ ([] : List Value), v.category = 1 := fun _ h => nomatch h
theorem cat_c {v : Value} {vs : List Value} (h : v.category = 1) (t : ∀ w ∈ vs, w.category = 1) : ∀ w ∈ v :: vs, w.category = 1 := fun w hw => (List.mem_cons.mp hw).elim (fun e => by rw [e]; exact h) (t w)
def fgt : List (Option Value) → List (Option Value) → Prop
  | [], [] => True
  | a :: L, b :: L' => (b = none ∨ b = a) ∧ fgt L L'
  | _, _ => False
theorem fgt_at : ∀ {L L' : List (Option Value)}, fgt L L' → L'.length = L.length ∧ ∀ (i : Nat) (v : Value), L'[i]? = some (some v) → L[i]? = some (some v)
  | [], [], _ => ⟨rfl, fun _ _ h => h⟩
  | a :: L, b :: L', h => by
    obtain ⟨h1, h2⟩ := h
    obtain ⟨e1, e2⟩ := fgt_at h2
    refine ⟨by simp [e1], fun i v hi => ?_⟩
    cases i with
    | zero =>
      rw [List.getElem?_cons_zero] at hi ⊢
      rcases h1 with h1 | h1
      · rw [h1] at hi; cases hi
      · rw [← h1]; exact hi
    | succ i =>
      rw [List.getElem?_cons_succ] at hi ⊢
      exact e2 i v hi
  | [], _ :: _, h => h.elim
  | _ :: _, [], h => h.elim
theorem LV.fgt {ls : Array Slot} {nL : Nat} {L L' : List (Option Value)} (h : LV ls nL L) (hf : fgt L L') : LV ls nL L' := by
  obtain ⟨e1, e2⟩ := fgt_at hf
  exact ⟨h.1, e1.trans h.2.1, h.2.2.1, fun i v hi => h.2.2.2 i v (e2 i v hi)⟩
section JMORE
variable {E : EV} {d : Nat} {y : MI} {pc : Nat} {L L' : List (Option Value)} {st : List Value} {G : GH} {Post : Res → GH → Prop} {a ci k i f n t : Nat}
theorem j_forget (hf : fgt L L') (kk : J E d y pc L' st G Post) : J E d y pc L st G Post :=
  j_step (fun _ _ _ _ _ _ _ _ _ _ _ _ _ _ ls _ _ _ hl _ _ _ _ kk => kk ls (hl.fgt hf)) kk
theorem j_getIv {v : Int32} (fe : FE y.1.cls i ci k) (hr : isR ci k = false) (hf : 64 * ci + k = f) (ht : gT G a = ci + 1) (hv : gI G f a = v) (hd : decode y.2.1 pc = .ok (.getfield i, 3)) (kk : J E d y (pc + 3) L (.int v :: st) G Post) : J E d y pc L (.ref a :: st) G Post := by
  subst hv
  exact j_getI fe hr hf ht hd kk
theorem j_newT (hci : ci + 1 = t) (ne : NE y.1.cls k ci) (hN : nF ci = n) (hty : ∀ j, j < n → tyF ci j = .int ∨ tyF ci j = .boolean ∨ isR ci j = true) (hd : decode y.2.1 pc = .ok (.new k, 3)) (kk : J E d y (pc + 3) L (.ref (gz G) :: st) (al G t n) Post) : J E d y pc L st G Post := by
  subst hci
  exact j_new ne hN hty hd kk
theorem j_aastOB {b : Nat} {j : Int32} (ht : gT G a = 23) (hi : IX j n (gN G a)) (hb : OB G b) (hd : decode y.2.1 pc = .ok (.aastore, 1)) (kk : J E d y (pc + 1) L st (sO G a n (some b)) Post) : J E d y pc L (.ref b :: .int j :: .ref a :: st) G Post := by
  obtain ⟨cb, q, h1, h2, h3⟩ := hb
  exact j_aastO ht hi h1 ⟨q, h2, h3⟩ hd kk
end JMORE
theorem IX_n {i : Int32} {n N N' : Nat} (h : N = N') (x : IX i n N) : IX i n N' := h ▸ x
