section JROWLE
variable {E : EV} {d : Nat} {y : MI} {pc : Nat} {L : List (Option Value)} {st : List Value} {G : GH} {Post : Res → GH → Prop}
/-! a branch more -/
theorem j_if_le {x : Int32} {off : Int} {tgt : Nat} (hd : decode y.2.1 pc = .ok (.ifCond .le off, 3)) (ht : (pc : Int) + off = (tgt : Int)) (kt : x ≤ 0 → J E d y tgt L st G Post) (kf : ¬ x ≤ 0 → J E d y (pc + 3) L st G Post) : J E d y pc L (.int x :: st) G Post := by
  by_cases c : x ≤ 0
  · exact j_step (fun _ _ _ _ _ _ _ _ _ _ _ _ _ _ ls fx _ _ hl _ _ _ _ kk => lv_if_le fx.1 fx.2.1 hd ht (fun _ => kk ls hl) (fun h => absurd c h)) (kt c)
  · exact j_step (fun _ _ _ _ _ _ _ _ _ _ _ _ _ _ ls fx _ _ hl _ _ _ _ kk => lv_if_le fx.1 fx.2.1 hd ht (fun h => absurd h c) (fun _ => kk ls hl)) (kf c)
end JROWLE
